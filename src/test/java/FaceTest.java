import java.lang.reflect.Constructor;
import java.lang.reflect.Field;
import java.lang.reflect.Method;
import java.lang.reflect.Modifier;
import java.util.Set;
import java.util.TreeSet;

/** The public face, and the exceptions and edges of the calls that only answer: promises 1 to 11. */
public final class FaceTest {
    public static void main(String[] args) {
        face();
        newObject();
        typing();
        wipeAndAgain();
        running();
        faults();
        outsAndCounts();
        categories();
        meanings();
        details();
        Probe.end();
    }

    private static void face() {
        Set<String> seen = new TreeSet<>();
        for (Method method : TokenMouth.class.getDeclaredMethods()) {
            if (!Modifier.isPrivate(method.getModifiers())) {
                seen.add(method.getName());
            }
        }
        Set<String> due = new TreeSet<>(Set.of("type", "wipe", "again", "run", "fault", "out", "count", "category",
                "meaning", "detail"));
        Probe.check("methods " + seen, seen.equals(due) ? 1 : 0, 1);
        for (Method method : TokenMouth.class.getDeclaredMethods()) {
            if (Modifier.isPrivate(method.getModifiers())) {
                Probe.check("private " + method.getName(), due.contains(method.getName()) ? 1 : 0, 0);
            }
        }
        for (Field field : TokenMouth.class.getDeclaredFields()) {
            boolean open = !Modifier.isPrivate(field.getModifiers());
            Probe.check("field " + field.getName(), open ? 1 : 0, field.getName().equals("NONE") ? 1 : 0);
        }
        Constructor<?>[] constructors = TokenMouth.class.getDeclaredConstructors();
        Probe.check("constructors", constructors.length, 1);
        Probe.check("final", Modifier.isFinal(TokenMouth.class.getModifiers()) ? 1 : 0, 1);
        Probe.check("NONE", TokenMouth.NONE, -1);
    }

    private static void newObject() {
        Probe probe = Probe.of("");
        for (int what = 0; what < 5; what++) {
            probe.count(what, 0);
        }
        probe.fault(0, 0).outs("").run(1, 1).run(500, 1).count(1, 0).fault(0, 0);
    }

    private static void typing() {
        TokenMouth mouth = new TokenMouth();
        Probe.check("no bytes", mouth.type(0) ? 1 : 0, 1);
        Probe.check("zeros between", mouth.type(0x6100_0062_0000_0063L) ? 1 : 0, 1);
        Probe.check("31", mouth.type(0x611FL) ? 1 : 0, 0);
        Probe.check("127", mouth.type(0x7F61L) ? 1 : 0, 0);
        Probe.check("11", mouth.type(11) ? 1 : 0, 0);
        Probe.check("9", mouth.type(9) ? 1 : 0, 0);
        Probe.check("128 in front", mouth.type(0x8061_6161_6161_6161L) ? 1 : 0, 0);
        Probe.check("255", mouth.type(-1) ? 1 : 0, 0);
        Probe.check("edges 10, 32, 126", mouth.type(0x0A20_7EL) ? 1 : 0, 1);
        Probe.check("the run", Probe.answer(() -> mouth.run(3)), 0);
        Probe.check("order 0", mouth.out(0), 'a' + 256 * 11);
        Probe.check("order 1", mouth.out(1), 'b' + 256 * 11);
        Probe.check("order 2", mouth.out(2), 'c' + 256 * 11);
        Probe.check("begun", mouth.type('a') ? 1 : 0, 0);
        Probe.check("begun, no bytes", mouth.type(0) ? 1 : 0, 0);

        Probe full = Probe.of(Probe.times(159, "x"));
        Probe.check("one too many", full.mouth.type(Probe.pack("yz")) ? 1 : 0, 0);
        full.type("y");
        Probe.check("full", full.mouth.type('z') ? 1 : 0, 0);
        Probe.check("full, no bytes", full.mouth.type(0) ? 1 : 0, 1);
        full.runOut().outs(Probe.times(159, "x") + "y").fine();

        // Before a step what was read stays read, and its state, too.
        Probe.of("  %no").run(1, 1).fault(0, 5).count(1, 0).type("yes").run(500, 1).outs("yes").fine();
        Probe.of("%no\n").run(1, 1).type("\n").run(500, 1).outs("|").fine();
        Probe.of("\\").run(5, Probe.STATE).fault(3, 1).count(1, 1);
        Probe begun = Probe.of("\\").run(5, Probe.STATE);
        Probe.check("begun by a fault", begun.mouth.type('a') ? 1 : 0, 0);
    }

    private static void wipeAndAgain() {
        String text = "\\catcode!13\\def!{y}\\gdef\\g{z}{\\iftrue !\\expandafter\\g\\string\\abc\\undefd";
        Probe probe = Probe.ran(text).fault(2, text.length()).count(2, 1).count(3, 1).count(4, 2).outs("yz\\abc");
        probe.mouth.again();
        fresh(probe);
        probe.runOut().fault(2, text.length()).count(2, 1).count(3, 1).count(4, 2).outs("yz\\abc");
        probe.mouth.again();
        fresh(probe);
        probe.type("x").runOut().fault(2, text.length() + 1);
        probe.mouth.wipe();
        fresh(probe);
        probe.run(1, 1).fault(0, 0);
        probe.mouth.wipe();
        probe.type("~");
        probe.run(1, Probe.STATE);
        probe.mouth.wipe();
        Probe.check("type after wipe", probe.mouth.type('a') ? 1 : 0, 1);
        probe.run(2, 1).outs("a");
        // The macros' rows are used again: nothing of an earlier run may show.
        Probe macros = Probe.of("");
        for (int k = 0; k < 5; k++) {
            macros.mouth.wipe();
            macros.type("\\def\\a#1#2.{#1#2xyz}").runOut();
            macros.detail("a", 0, 2).detail("a", 1, 3).detail("a", 2, 5);
            macros.mouth.wipe();
            macros.type("\\def\\a{}").runOut();
            macros.detail("a", 0, 0).detail("a", 1, 0).detail("a", 2, 0).detail("a", 3, -1);
        }
        // Nor may the rest of a longer text.
        Probe shorter = Probe.of("xxxxxxxxxx").run(500, 1);
        shorter.mouth.wipe();
        shorter.type("\\relax").run(500, 1).fault(0, 6).outs("");
        // Faults of the reading and inside of expansions leave nothing behind.
        Probe forbidden = Probe.of("x\\catcode!15!").runOut().fault(8, 13);
        forbidden.mouth.again();
        forbidden.run(2, 0).outs("x").run(1, Probe.STATE).fault(8, 13);
        Probe nested = Probe.ran("\\expandafter\\string\\csname x\\csname y\\relax").fault(4, 43);
        nested.mouth.again();
        nested.runOut().fault(4, 43);
        Probe chain = Probe.ran("\\let\\e=\\expandafter" + Probe.times(31, "\\e1")).fault(5, 111);
        chain.mouth.again();
        chain.runOut().fault(5, 111);
        Probe kept = Probe.ran("\\let\\o={\\def\\a{\\o\\let\\x=1\\let\\y=2\\let\\z=3\\a}\\a").fault(5).count(2, 21);
        kept.mouth.again();
        kept.runOut().fault(5).count(2, 21);
        // Pending tokens are gone, and so is the state of the reading.
        Probe pending = Probe.of("\n\\def\\a{xxxx}\\a").run(4, 0).outs("|x");
        pending.mouth.again();
        pending.run(1, 0).outs("|").run(500, 1).outs("|xxxx");
    }

    private static void fresh(Probe probe) {
        for (int what = 0; what < 5; what++) {
            probe.count(what, 0);
        }
        probe.fault(0, 0).outs("").category('!', 12).activeMeaning("!", 0).meaning("g", 0).meaning("abc", 0);
    }

    private static void running() {
        Probe probe = Probe.of("abc");
        probe.run(0, Probe.ARGUMENT).run(-1, Probe.ARGUMENT).run(501, Probe.ARGUMENT).count(1, 0);
        probe.run(Integer.MIN_VALUE, Probe.ARGUMENT).run(Integer.MAX_VALUE, Probe.ARGUMENT);
        // Three steps find their tokens; only a fourth one finds that there is none.
        probe.run(1, 0).count(1, 1).run(2, 0).count(1, 3).run(1, 1).count(1, 3).run(500, 1).count(1, 3).outs("abc");
        Probe.of("{\\iftrue").run(500, 1).count(2, 1).count(3, 1);
        Probe fault = Probe.of("a}b").run(1, 0).run(1, Probe.STATE).run(1, Probe.STATE).count(1, 2);
        fault.run(0, Probe.ARGUMENT).run(501, Probe.ARGUMENT).fault(1, 2).outs("a");
        Probe.of("a").run(500, 1);
    }

    private static void faults() {
        Probe probe = Probe.of("");
        Probe.check("fault(-1)", Probe.answer(() -> probe.mouth.fault(-1)), Probe.INDEX);
        Probe.check("fault(2)", Probe.answer(() -> probe.mouth.fault(2)), Probe.INDEX);
        // Characters whose tokens are pending are read, too.
        Probe.of("\\expandafter abc").run(1, 0).fault(0, 15).run(3, 0).outs("abc");
        Probe.of("a  b").run(1, 0).fault(0, 1).run(1, 0).fault(0, 2).run(1, 0).fault(0, 4);
        Probe.of("\\relax  b").run(1, 0).fault(0, 6).run(1, 0).fault(0, 9);
    }

    private static void outsAndCounts() {
        Probe probe = Probe.of("a ").run(500, 1).out(0, 'a', 11).out(1, ' ', 10);
        int[] none = {-1, 2, 200, Integer.MIN_VALUE, Integer.MAX_VALUE};
        for (int k : none) {
            Probe.check("out(" + k + ")", Probe.answer(() -> probe.mouth.out(k)), Probe.INDEX);
        }
        probe.count(-1, Probe.INDEX).count(5, Probe.INDEX).count(Integer.MIN_VALUE, Probe.INDEX);
        Probe.ran("{{}\\def\\a{}\\def\\a{}\\iftrue\\iftrue").count(0, 0).count(1, 7).count(2, 1).count(3, 2).count(4, 2);
    }

    private static void categories() {
        Probe probe = Probe.of("");
        String special = "\\{}$&\n#^_ ~%";
        int[] due = {0, 1, 2, 3, 4, 5, 6, 7, 8, 10, 13, 14};
        for (int c = -2; c < 260; c++) {
            int want = c >= 'a' && c <= 'z' || c >= 'A' && c <= 'Z' ? 11 : 12;
            if (c != 10 && (c < 32 || c > 126)) {
                want = Probe.INDEX;
            } else if (special.indexOf(c) >= 0) {
                want = due[special.indexOf(c)];
            }
            probe.category(c, want);
        }
        probe.category(Integer.MAX_VALUE, Probe.INDEX).category(Integer.MIN_VALUE, Probe.INDEX);
    }

    private static void meanings() {
        Probe probe = Probe.ran("\\def\\m{}\\let\\c=x\\let\\k=\\fi\\let\\n=\\undefd\\let~=z\\def\\abcdefgh{}");
        probe.fine().meaning("m", 3).meaning("c", 2).meaning("k", 1).meaning("n", 0).meaning("undefd", 0);
        probe.activeMeaning("~", 2).meaning("~", 0).meaning("abcdefgh", 3).meaning("bcdefgh", 0).meaning("par", 1);
        probe.meaning("", Probe.ELEMENT).activeMeaning("", Probe.ELEMENT).activeMeaning("ab", Probe.ELEMENT);
        probe.meaning("\n", 0).meaning(" ", 0).activeMeaning("\n", 0).meaning("a\u001f", Probe.ELEMENT);
        probe.meaning("\u007f", Probe.ELEMENT).activeMeaning("\u0009", Probe.ELEMENT);
        Probe.check("zeros between", Probe.answer(() -> probe.mouth.meaning(0x7000_6100_7200_0000L, false)), 1);
        Probe.check("one with zeros", Probe.answer(() -> probe.mouth.meaning(0x7E00_0000L, true)), 2);
        Probe.check("all 255", Probe.answer(() -> probe.mouth.meaning(-1, false)), Probe.ELEMENT);
        // Asking makes no name known.
        Probe asked = Probe.of("\\let\\x=y\\x");
        for (int k = 0; k < 200; k++) {
            asked.meaning("q" + k, 0);
        }
        asked.run(500, 1).outs("y");
    }

    private static void details() {
        String[] commands = {"par", "relax", "def", "gdef", "edef", "let", "catcode", "", "noexpand", "csname", "",
            "string", "if", "ifx", "iftrue", "iffalse", "else", "fi"};
        Probe fresh = Probe.of("");
        for (int k = 0; k < commands.length; k++) {
            if (!commands[k].isEmpty()) {
                fresh.meaning(commands[k], 1).detail(commands[k], 0, k + 1).detail(commands[k], 1, 0);
                fresh.detail(commands[k], 2, 0).detail(commands[k], 3, -1);
            }
        }
        Probe.ran("\\let\\x=\\expandafter\\let\\y=\\endcsname").detail("x", 0, 8).detail("y", 0, 11);
        Probe probe = Probe.ran("\\def\\a+#1#2.{#2\\x##{#1 }~}\\let\\c=}").fine();
        probe.detail("a", 0, 2).detail("a", 1, 4).detail("a", 2, 8).detail("a", 3, 4098).detail("a", 4, 4096);
        probe.detail("a", 5, '#' + 256 * 6).detail("a", 6, '{' + 256).detail("a", 7, 4097).detail("a", 8, 2592);
        probe.detail("a", 9, '}' + 512).detail("a", 10, 4096).detail("a", 11, -1).detail("a", -1, -1);
        probe.detail("a", Integer.MIN_VALUE, -1).detail("a", Integer.MAX_VALUE, -1);
        probe.detail("c", 0, '}' + 512).detail("c", 1, 0).detail("c", 2, 0).detail("c", 3, -1).detail("c", -1, -1);
        probe.detail("q", 0, -1).detail("q", 1, 0).detail("q", 2, 0).detail("q", 3, -1).detail("q", -1, -1);
        probe.detail("", 0, Probe.ELEMENT).detail("\u0001", 9, Probe.ELEMENT);
        Probe.check("active detail", Probe.answer(() -> probe.mouth.detail('~', true, 0)), -1);
        Probe.check("active of two", Probe.answer(() -> probe.mouth.detail(0x7E7EL, true, -5)), Probe.ELEMENT);
    }
}
