import java.util.Random;

/**
 * Texts put together by a fixed seed: no call may throw anything but what the document names, and the same text must
 * give the same answers however the run is cut into calls, and again.
 */
public final class RandomRunsTest {
    private static final String[] PIECES = {"\\a", "\\b", "\\c", "~", "!", "a", "b", "1", "2", "=", ".", " ", "\n",
        "{", "}", "#", "#1", "##", "%", "\\", "\\ ", "\\def\\a{", "\\def\\b#1{", "\\def\\c#1.#2{", "\\gdef\\a{",
        "\\edef\\b{", "\\let\\a=", "\\let\\b", "\\catcode!13", "\\catcode", "\\expandafter", "\\noexpand", "\\csname",
        "\\endcsname ", "\\string", "\\if", "\\ifx", "\\iftrue ", "\\iffalse ", "\\else ", "\\fi ", "\\par", "\\relax ",
        "\\def\\a{\\a\\a}", "\\def\\b#1.{#1}", "\\let\\c={", "\\let\\a=}", "{x}", "\\csname a\\endcsname "};

    public static void main(String[] args) {
        Random random = new Random(20261115);
        for (int k = 0; k < 20000; k++) {
            String text = text(random);
            TokenMouth whole = typed(text);
            String first = report(whole, 500);
            whole.again();
            Probe.check(text + ": again", report(whole, 500).equals(first) ? 1 : 0, 1);
            Probe.check(text + ": by single steps", report(typed(text), 1).equals(first) ? 1 : 0, 1);
            Probe.check(text + ": by sevens", report(typed(text), 7).equals(first) ? 1 : 0, 1);
        }
        Probe.end();
    }

    private static String text(Random random) {
        StringBuilder text = new StringBuilder();
        int goal = 5 + random.nextInt(155);
        while (text.length() < goal) {
            text.append(PIECES[random.nextInt(PIECES.length)]);
        }
        return text.substring(0, Math.min(text.length(), 160));
    }

    private static TokenMouth typed(String text) {
        TokenMouth mouth = new TokenMouth();
        for (int k = 0; k < text.length(); k += 8) {
            mouth.type(Probe.pack(text.substring(k, Math.min(text.length(), k + 8))));
        }
        return mouth;
    }

    /** What can be asked after up to 250 steps, in calls of so many steps each; an object has no more than 512 calls. */
    private static String report(TokenMouth mouth, int stepsOfCall) {
        int answer = 0;
        for (int left = 250; left > 0 && answer == 0; left -= stepsOfCall) {
            int n = Math.min(left, stepsOfCall);
            answer = Probe.answer(() -> mouth.run(n));
        }
        StringBuilder report = new StringBuilder().append(answer);
        report.append(' ').append(mouth.fault(0)).append(' ').append(mouth.fault(1));
        for (int what = 0; what < 5; what++) {
            report.append(' ').append(mouth.count(what));
        }
        int outs = mouth.count(0);
        for (int k = 0; k < outs && k < 80; k++) {
            report.append(' ').append(mouth.out(k));
        }
        report.append(' ').append(mouth.category('!')).append(' ').append(mouth.category('a'));
        for (char c : new char[] {'a', 'b', 'c'}) {
            for (int what = -1; what < 8; what++) {
                report.append(' ').append(mouth.detail(c, false, what));
            }
        }
        for (char c : new char[] {'~', '!'}) {
            report.append(' ').append(mouth.meaning(c, true)).append(' ').append(mouth.detail(c, true, 0));
        }
        return report.toString();
    }
}
