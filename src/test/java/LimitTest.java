/** The limits, each at its last allowed number and one above it: promises 5, 6 and 8. */
public final class LimitTest {
    public static void main(String[] args) {
        outs();
        pending();
        names();
        groupsAndConditionals();
        expansions();
        arguments();
        textsAndBodies();
        macros();
        kept();
        Probe.end();
    }

    private static void outs() {
        Probe.ran("\\def\\a{xxxxxxxxxx}\\def\\b{\\a\\a\\a\\a\\a\\a\\a\\a\\a\\a}\\b\\b").fine().count(0, 200);
        Probe.ran("\\def\\a{xxxxxxxxxx}\\def\\b{\\a\\a\\a\\a\\a\\a\\a\\a\\a\\a}\\b\\b y").fault(5).count(0, 200);
        Probe.ran("\\def\\a{xxxxxxxxxx}\\def\\b{\\a\\a\\a\\a\\a\\a\\a\\a\\a\\a}\\b\\b\\par").fault(5).count(0, 200);
        Probe.ran("\\def\\a{xxxxxxxxxx}\\def\\b{\\a\\a\\a\\a\\a\\a\\a\\a\\a\\a}\\b\\b{}").fine().count(0, 200);
    }

    private static void pending() {
        Probe.ran("\\def\\a{\\a\\a}\\a").fault(5, 14).count(1, 301);
        // 8 * 37 + 4 = 300 tokens are put back; one more is too many.
        String text = "\\def\\a#1{#1#1#1#1#1#1#1#1....}\\a{" + Probe.times(37, "x") + "}";
        Probe.of(text).run(2, 0).count(1, 2).run(200, 0).count(0, 200);
        String more = "\\def\\a#1{#1#1#1#1#1#1#1#1.....}\\a{" + Probe.times(37, "x") + "}";
        Probe.of(more).run(2, Probe.STATE).fault(5, more.length()).count(1, 2).count(0, 0);
        // The first token of expandafter comes on top of what the second one puts back.
        String after = "\\def\\a#1{#1#1#1#1#1#1#1#1...}\\expandafter x\\a{" + Probe.times(37, "x") + "}";
        Probe.of(after).run(2, 0);
        String full = "\\def\\a#1{#1#1#1#1#1#1#1#1....}\\expandafter x\\a{" + Probe.times(37, "x") + "}";
        Probe.of(full).run(2, Probe.STATE).fault(5);
    }

    /** 98 names that csname makes, besides the names n and r. */
    private static String hundredNames() {
        StringBuilder text = new StringBuilder("\\def\\n#1#2{\\csname#1#2\\endcsname}\\def\\r#1{");
        for (char c = 'a'; c <= 'j'; c++) {
            text.append("\\n#1").append(c);
        }
        text.append("}");
        for (char c = '1'; c <= '9'; c++) {
            text.append("\\r").append(c);
        }
        for (char c = 'a'; c <= 'g'; c++) {
            text.append("\\n.").append(c);
        }
        return text.append("\\n.h").toString();
    }

    private static void names() {
        String text = hundredNames();
        Probe.check("room for more", text.length() <= 152 ? 1 : 0, 1);
        Probe.ran(text).fine().detail("1a", 0, 2).detail(".h", 0, 2);
        // Names that are known, and the commands', may come again.
        Probe.ran(text + "\\n.h\\par").fine().outs("|");
        Probe.ran(text + "\\n.i").fault(5, text.length() + 4).meaning(".i", 0);
        Probe.ran(text + "\\z").fault(5, text.length() + 2);
        Probe.ran(text + "~").fault(5, text.length() + 1);
        Probe.ran(text + "\\zyx.").fault(5, text.length() + 4);
        Probe probe = Probe.ran(text + "\\z").fault(5);
        probe.mouth.again();
        probe.runOut().fault(5, text.length() + 2);
        probe.mouth.wipe();
        probe.mouth.type(Probe.pack("\\let\\z=x"));
        probe.mouth.type(Probe.pack("\\z"));
        probe.run(500, 1).outs("x");
        // The names that a conditional passes are known, too.
        String passed = "\\def\\n#1#2{\\csname#1#2\\endcsname}\\def\\r#1{\\n#1a\\n#1b\\n#1c\\n#1d\\n#1e\\n#1f\\n#1g\\n#1h\\n#1i}";
        String calls = "\\r1\\r2\\r3\\r4\\r5\\r6\\r7\\r8\\r9";
        Probe.ran(passed + calls).fine();
        Probe.ran(passed + calls + "\\r.\\r,").fault(5).detail(".i", 0, 2).detail(",h", 0, 2).meaning(",i", 0);
        Probe.ran("\\iffalse\\1\\fi" + passed + calls + "\\r.\\r,").fault(5).detail(",g", 0, 2).meaning(",h", 0);
    }

    private static void groupsAndConditionals() {
        Probe.ran(Probe.times(30, "{")).fine().count(2, 30);
        Probe.ran(Probe.times(31, "{")).fault(5, 31).count(2, 30);
        Probe.ran(Probe.times(30, "{") + "}{").fine().count(2, 30);
        Probe.ran(Probe.times(12, "\\iftrue")).fine().count(3, 12);
        Probe.ran(Probe.times(13, "\\iftrue")).fault(5, 91).count(3, 12);
        Probe.ran(Probe.times(12, "\\iftrue") + "\\iffalse\\fi").fault(5, 92).count(3, 12);
        Probe.ran(Probe.times(12, "\\if")).fault(3).count(3, 12);
        Probe.ran(Probe.times(13, "\\if")).fault(5, 39).count(3, 12).count(1, 1);
        Probe.ran("\\iffalse" + Probe.times(14, "\\if") + Probe.times(15, "\\fi")).fine().count(3, 0);
    }

    private static void expansions() {
        String macros = "\\def\\a{}\\def\\b{\\a\\a\\a\\a\\a\\a\\a\\a\\a}\\edef\\x{" + Probe.times(20, "\\b");
        Probe.ran(macros + "}").fine().meaning("x", 3).detail("x", 2, 0);
        Probe.ran(macros + "\\a}").fault(5).meaning("x", 0).count(1, 3).count(4, 2);
        Probe.ran(macros + "\\fi}").fault(5);
        // Each step has its own count.
        Probe.ran(macros + "}\\b").fine().count(1, 13);
        String chain = "\\let\\e=\\expandafter";
        Probe.ran(chain + Probe.times(30, "\\e1") + "2").fine().outs(Probe.times(30, "1") + "2").count(1, 33);
        Probe.ran(chain + Probe.times(31, "\\e1") + "2").fault(5).count(1, 2).outs("");
        Probe.ran(chain + Probe.times(30, "\\e1") + "\\fi").fault(5, 19 + 90 + 3);
        Probe.ran(chain + Probe.times(29, "\\e1") + "\\fi").fault(1, 19 + 87 + 3);
        Probe.ran("\\def\\a{\\csname\\a}\\a").fault(5).count(1, 3);
    }

    private static void arguments() {
        String one = "\\def\\a#1{\\def\\b{#1}}\\a";
        Probe.ran(one + "{" + Probe.times(38, "x") + "}").fine().detail("b", 2, 38);
        Probe.ran(one + "{" + Probe.times(39, "x") + "}").fault(5, one.length() + 41);
        Probe.ran(one + "{" + Probe.times(39, "x")).fault(3, one.length() + 40);
        Probe.ran(one + "{" + Probe.times(39, "x") + "\\par").fault(5);
        Probe.ran(one + "{" + Probe.times(38, "x") + "\\par").fault(7);
        Probe.ran("\\def\\s{ }\\def\\a#1{\\def\\b{#1}}\\a" + Probe.times(30, "\\s ") + "{}").fine().detail("b", 2, 1);
        // Blanks that are passed are not counted.
        String blanks = "\\def\\a#1#2{\\def\\b{#2}}\\a 1 {";
        Probe.ran(blanks + Probe.times(38, "x") + "}").fine().detail("b", 2, 38);
        String dot = "\\def\\a#1.{\\def\\b{#1}}\\a ";
        Probe.ran(dot + Probe.times(39, "x") + ".").fine().detail("b", 2, 39);
        Probe.ran(dot + Probe.times(40, "x") + ".").fault(5, dot.length() + 41);
        Probe.ran(dot + Probe.times(40, "x")).fault(3, dot.length() + 40);
        Probe.ran(dot + Probe.times(40, "x") + "}").fault(5, dot.length() + 41);
        Probe.ran(dot + Probe.times(39, "x") + "}").fault(1, dot.length() + 40);
        String two = "\\def\\a#1..{\\def\\b{#1}}\\a ";
        Probe.ran(two + Probe.times(38, "x") + "..").fine().detail("b", 2, 38);
        Probe.ran(two + Probe.times(39, "x") + "..").fault(5, two.length() + 41);
        // Each argument has its own count.
        Probe.ran("\\def\\a#1#2{\\def\\b{#1}}\\a{" + Probe.times(38, "x") + "}{" + Probe.times(38, "x") + "}").fine();
    }

    private static void textsAndBodies() {
        Probe.ran("\\def\\a" + "123456789012" + "{}").fine().detail("a", 1, 12);
        Probe.ran("\\def\\a" + "1234567890123" + "{}").fault(5, 19);
        Probe.ran("\\def\\a" + "12345678#1#2#3#4" + "{}").fine().detail("a", 1, 12).detail("a", 0, 4);
        Probe.ran("\\def\\a" + "123456789#1#2#3#4" + "{}").fault(5, 23);
        Probe.ran("\\def\\a" + "123456789012#1" + "{}").fault(5, 20);
        Probe.ran("\\def\\a" + "123456789012#2" + "{}").fault(4, 20);
        Probe.ran("\\def\\a" + "123456789012}").fault(1, 19);
        String start = "\\def\\a#1{";
        Probe.ran(start + Probe.times(40, "x") + "}").fine().detail("a", 2, 40).detail("a", 42, 'x' + 11 * 256)
                .detail("a", 43, -1);
        Probe.ran(start + Probe.times(41, "x") + "}").fault(5, start.length() + 41);
        Probe.ran(start + Probe.times(38, "x") + "{}}").fine().detail("a", 2, 40);
        Probe.ran(start + Probe.times(39, "x") + "{}}").fault(5, start.length() + 41);
        Probe.ran(start + Probe.times(40, "#1") + "}").fine().detail("a", 2, 40);
        Probe.ran(start + Probe.times(40, "##") + "}").fine().detail("a", 2, 40);
        Probe.ran(start + Probe.times(40, "x") + "#1}").fault(5, start.length() + 42);
        Probe.ran(start + Probe.times(40, "x") + "#2}").fault(4, start.length() + 42);
        Probe.ran(start + Probe.times(40, "x")).fault(3);
        Probe.ran("\\def\\a{x\\a}\\edef\\b{\\a}").fault(5).count(4, 1).meaning("b", 0);
    }

    private static void macros() {
        Probe.of("\\def\\a{\\def\\b{}\\a}\\a").run(119, 0).count(4, 60).run(1, 0).run(1, Probe.STATE).fault(5)
                .count(4, 60).count(1, 121).meaning("b", 3);
        Probe.ran("\\def\\a{\\def\\b{}\\a}\\a").fault(5, 20).count(4, 60);
        // Looked at when the body is there: a fault in the body comes first.
        Probe.ran("\\def\\a#1{\\def\\b{#1\\fi}\\a}\\a x").fault(3).count(4, 2);
        Probe.ran("{\\def\\a{{\\gdef\\b{}}\\a}\\a").fault(5).count(4, 60).count(2, 2);
    }

    private static void kept() {
        // Three changes in each group: the 61st comes in the group 21, and is not made.
        String text = "\\let\\o={\\let\\x=1\\let\\y=2\\def\\a{\\o\\let\\t=\\x\\let\\x=\\y\\let\\y=\\t\\a}\\a";
        Probe.ran(text).fault(5).count(2, 21).detail("t", 0, '2' + 12 * 256).detail("x", 0, '1' + 12 * 256);
        // The second change of the same in a group, one outside of all groups, and gdef are not kept.
        Probe.ran("\\let\\o={\\def\\a{\\o\\let\\x=1\\let\\x=2\\let\\y=3\\let\\y=4\\a}\\a").fault(5).count(2, 30);
        Probe.ran("\\let\\o={\\def\\a{\\o\\let\\x=1\\catcode!11\\let\\z=1\\a}\\a").fault(5).count(2, 21);
        Probe.of("\\def\\a{\\let\\x=1\\let\\y=2\\a}\\a").run(500, 0).fault(0);
        Probe.of("{\\def\\a{\\let\\x=1\\let\\y=2\\a}\\a").run(500, 0).fault(0);
        Probe.of("\\def\\a{{\\let\\x=1\\let\\y=2}\\a}\\a").run(500, 0).fault(0);
        Probe.ran("\\let\\o={\\def\\a{\\o\\let\\x=1\\let\\y=2\\gdef\\z{}\\a}\\a").fault(5).count(2, 30).count(4, 31);
        // A macro is made though its name can't change any more.
        Probe.ran("\\let\\o={\\def\\a{\\o\\let\\x=1\\let\\y=2\\def\\z{}\\a}\\a").fault(5).count(2, 21).count(4, 21);
        Probe.ran("\\let\\o={\\def\\a{\\o\\def\\z{}\\let\\x=1\\let\\y=2\\a}\\a").fault(5).count(2, 21).count(4, 22);
        // csname changes a name's meaning, too.
        String names = "\\let\\o={\\def\\a{\\o\\let\\x=1\\let\\y=2\\let\\q=\\undefd\\csname q\\endcsname\\a}\\a";
        Probe.ran(names).fault(5).count(2, 21).meaning("q", 1);
        Probe.ran("\\let\\o={\\def\\a{\\o\\let\\x=1\\let\\y=2\\csname q\\endcsname\\a}\\a").fault(5).count(2, 30);
    }
}
