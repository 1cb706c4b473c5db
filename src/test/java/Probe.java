import java.util.NoSuchElementException;
import java.util.function.IntSupplier;

/** A mouth into which text is typed as a String; each answer that is not the one that is due is printed and counted. */
final class Probe {
    static final int INDEX = -1001;
    static final int ARGUMENT = -1002;
    static final int STATE = -1003;
    static final int ELEMENT = -1004;

    private static int wrong;
    private static int asked;

    final TokenMouth mouth = new TokenMouth();
    private String typed = "";
    private int calls;

    /** A mouth with this text. */
    static Probe of(String text) {
        return new Probe().type(text);
    }

    /** A mouth that has run over this text, to its end or to a fault. */
    static Probe ran(String text) {
        return of(text).runOut();
    }

    /** What the mouth answers after its 512th call is free, so no test may ask for it. */
    private void called() {
        calls++;
        if (calls == 513) {
            check(typed + ": calls of one object", calls, 512);
        }
    }

    Probe type(String text) {
        for (int k = 0; k < text.length(); k += 8) {
            String piece = text.substring(k, Math.min(text.length(), k + 8));
            called();
            due("type " + piece, mouth.type(pack(piece)) ? 1 : 0, 1);
        }
        typed = typed + text;
        return this;
    }

    /** The mouth takes none of this text. */
    Probe refuses(String text) {
        called();
        return due(typed + ": type " + text, mouth.type(pack(text)) ? 1 : 0, 0);
    }

    Probe runOut() {
        for (int k = 0; k < 100; k++) {
            if (run(500) != 0) {
                return this;
            }
        }
        due(typed + ": runs on and on", 1, 0);
        return this;
    }

    /** Runs to the end and answers how many steps that took. */
    int runSteps() {
        return runOut().mouth.count(1);
    }

    int run(int n) {
        called();
        return answer(() -> mouth.run(n));
    }

    Probe run(int n, int want) {
        due(typed + ": run(" + n + ")", run(n), want);
        return this;
    }

    /** The tokens that are out: a character as itself, par as |. */
    Probe outs(String want) {
        StringBuilder outs = new StringBuilder();
        called();
        int size = mouth.count(0);
        for (int k = 0; k < size; k++) {
            called();
            int token = mouth.out(k);
            outs.append(token == 4096 ? '|' : (char) (token % 256));
        }
        dueText(typed + ": out", outs.toString(), want);
        called();
        return due(typed + ": out(count)", answer(() -> mouth.out(size)), INDEX);
    }

    Probe out(int k, int code, int category) {
        called();
        return due(typed + ": out(" + k + ")", answer(() -> mouth.out(k)), code + 256 * category);
    }

    /** No fault, and all of the text is read. */
    Probe fine() {
        return fault(0, typed.length());
    }

    Probe fault(int kind) {
        called();
        return due(typed + ": fault(0)", mouth.fault(0), kind);
    }

    Probe fault(int kind, int place) {
        fault(kind);
        called();
        return due(typed + ": fault(1)", mouth.fault(1), place);
    }

    Probe count(int what, int want) {
        called();
        return due(typed + ": count(" + what + ")", answer(() -> mouth.count(what)), want);
    }

    Probe category(int c, int want) {
        called();
        return due(typed + ": category(" + c + ")", answer(() -> mouth.category(c)), want);
    }

    Probe meaning(String name, int want) {
        called();
        return due(typed + ": meaning " + name, answer(() -> mouth.meaning(pack(name), false)), want);
    }

    Probe activeMeaning(String name, int want) {
        called();
        return due(typed + ": active meaning " + name, answer(() -> mouth.meaning(pack(name), true)), want);
    }

    Probe detail(String name, int what, int want) {
        called();
        return due(typed + ": detail " + name + " " + what, answer(() -> mouth.detail(pack(name), false, what)), want);
    }

    Probe activeDetail(String name, int what, int want) {
        called();
        return due(typed + ": active detail " + name + " " + what,
                answer(() -> mouth.detail(pack(name), true, what)), want);
    }

    static long pack(String text) {
        long w = 0;
        for (int k = 0; k < text.length(); k++) {
            w = w << 8 | text.charAt(k);
        }
        return w;
    }

    static String times(int n, String text) {
        return text.repeat(n);
    }

    /** What a call answers, or a number for the exception that it throws. */
    static int answer(IntSupplier call) {
        try {
            return call.getAsInt();
        } catch (IllegalArgumentException e) {
            return e.getClass() == IllegalArgumentException.class ? ARGUMENT : unexpected(e);
        } catch (IllegalStateException e) {
            return e.getClass() == IllegalStateException.class ? STATE : unexpected(e);
        } catch (IndexOutOfBoundsException e) {
            return e.getClass() == IndexOutOfBoundsException.class ? INDEX : unexpected(e);
        } catch (NoSuchElementException e) {
            return e.getClass() == NoSuchElementException.class ? ELEMENT : unexpected(e);
        }
    }

    private static int unexpected(RuntimeException e) {
        e.printStackTrace(System.out);
        wrong++;
        return Integer.MIN_VALUE;
    }

    private Probe due(String what, int got, int want) {
        check(what, got, want);
        return this;
    }

    static void check(String what, int got, int want) {
        asked++;
        if (got != want) {
            wrong++;
            System.out.println(what.replace("\n", "<LF>") + " answered " + got + ", due is " + want);
        }
    }

    private static void dueText(String what, String got, String want) {
        asked++;
        if (!got.equals(want)) {
            wrong++;
            System.out.println(what.replace("\n", "<LF>") + " answered " + got + ", due is " + want);
        }
    }

    static void end() {
        System.out.println(asked + " answers, " + wrong + " of them wrong");
        if (wrong > 0 || asked == 0) {
            System.exit(1);
        }
    }
}
