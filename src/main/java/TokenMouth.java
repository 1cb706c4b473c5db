import java.util.Arrays;
import java.util.NoSuchElementException;

/**
 * Reads characters by categories into tokens, expands macros with delimited arguments and conditionals in the order
 * in which a typesetter's mouth does it, keeps definitions by groups, and tells the tokens that come out, or the place
 * and the kind of the first fault.
 *
 * <p>A token is an int: a character is its code + 256 * its category, a name NAME + its place among the names, a
 * parameter (in texts and bodies alone) PARAMETER + its number; a marked name bears MARK, too. A meaning is an int:
 * NOTHING, a command's place 1 .. 18, a character as above, or MACRO + the macro's place.
 */
public final class TokenMouth {
    public static final int NONE = -1;

    private static final int TEXT_LIMIT = 160;
    private static final int NAME_LENGTH_LIMIT = 11;
    private static final int NAME_LIMIT = 100;
    private static final int PENDING_LIMIT = 300;
    private static final int OUT_LIMIT = 200;
    private static final int GROUP_LIMIT = 30;
    private static final int CONDITIONAL_LIMIT = 12;
    private static final int RUN_LIMIT = 500;
    private static final int EXPANSION_LIMIT = 200;
    private static final int NESTING_LIMIT = 30;
    private static final int PARAMETER_LIMIT = 4;
    private static final int ARGUMENT_LIMIT = 40;
    private static final int MACRO_TEXT_LIMIT = 12;
    private static final int BODY_LIMIT = 40;
    private static final int MACRO_LIMIT = 60;
    private static final int KEPT_LIMIT = 60;
    /** More tokens than can be got without an expansion: those pending and those of the text. */
    private static final int GET_LIMIT = 1000;

    private static final int UNBALANCED = 1;
    private static final int UNKNOWN = 2;
    private static final int TEXT_ENDED = 3;
    private static final int UNFIT = 4;
    private static final int TOO_MANY = 5;
    private static final int MISMATCH = 6;
    private static final int PARAGRAPH = 7;
    private static final int INVALID = 8;

    private static final int LINE_END = 10;
    private static final int ESCAPE = 0;
    private static final int OPENING = 1;
    private static final int CLOSING = 2;
    private static final int LINE_ENDING = 5;
    private static final int HASH = 6;
    private static final int IGNORED = 9;
    private static final int SPACING = 10;
    private static final int LETTER = 11;
    private static final int OTHER = 12;
    private static final int ACTIVE = 13;
    private static final int COMMENT = 14;
    private static final int FORBIDDEN = 15;
    private static final int CATEGORY_LIMIT = 15;

    private static final int NAME = 4096;
    private static final int PARAMETER = 8192;
    private static final int MARK = 16384;
    private static final int BLANK = ' ' + 256 * SPACING;
    private static final int EQUALS = '=' + 256 * OTHER;
    private static final int PAR_NAME = NAME;
    private static final int NAME_OUT = 4096;

    private static final int NOTHING = 0;
    private static final int PAR = 1;
    private static final int RELAX = 2;
    private static final int DEF = 3;
    private static final int GDEF = 4;
    private static final int EDEF = 5;
    private static final int LET = 6;
    private static final int CATCODE = 7;
    private static final int EXPANDAFTER = 8;
    private static final int NOEXPAND = 9;
    private static final int CSNAME = 10;
    private static final int ENDCSNAME = 11;
    private static final int STRING = 12;
    private static final int IF = 13;
    private static final int IFX = 14;
    private static final int IFTRUE = 15;
    private static final int IFFALSE = 16;
    private static final int ELSE = 17;
    private static final int FI = 18;
    private static final int COMMANDS = 18;
    /** In the order of their places, a blank behind each. */
    private static final String COMMAND_NAMES =
            "par relax def gdef edef let catcode expandafter noexpand csname endcsname string if ifx iftrue iffalse else fi ";
    private static final int MACRO = 4096;

    private static final int TESTING = 0;
    private static final int FIRST_PART = 1;
    private static final int SECOND_PART = 2;

    private final Reader reader;
    private final Names names;
    private final Groups groups;
    private final Row pending;
    private final Row outs;
    private final Row conditionals;
    private final Row[] arguments;
    private final Macro[] macros;
    /** The macro that is being read; it changes places with one of the macros when it is made. */
    private Macro draft;
    private int made;
    private int steps;
    private int faultKind;
    private int expansions;
    private int openExpansions;

    public TokenMouth() {
        reader = new Reader();
        names = new Names();
        groups = new Groups();
        pending = new Row(PENDING_LIMIT);
        outs = new Row(OUT_LIMIT);
        conditionals = new Row(CONDITIONAL_LIMIT);
        arguments = new Row[PARAMETER_LIMIT];
        for (int k = 0; k < arguments.length; k++) {
            arguments[k] = new Row(ARGUMENT_LIMIT);
        }
        macros = new Macro[MACRO_LIMIT];
        for (int k = 0; k < macros.length; k++) {
            macros[k] = new Macro();
        }
        draft = new Macro();
    }

    public boolean type(long w) {
        return steps == 0 && reader.append(w);
    }

    public void wipe() {
        reader.forgetText();
        startAnew();
    }

    public void again() {
        startAnew();
    }

    public int run(int n) throws IllegalArgumentException, IllegalStateException {
        if (n < 1 || n > RUN_LIMIT) {
            throw new IllegalArgumentException("n is not 1 .. 500");
        }
        if (faultKind != 0) {
            throw new IllegalStateException("the run came to a fault before");
        }
        for (int done = 0; done < n; done++) {
            steps++;
            expansions = 0;
            openExpansions = 0;
            int token = get(false);
            if (token == NONE) {
                steps--;
                return 1;
            }
            execute(meaningOf(token));
        }
        return 0;
    }

    public int fault(int what) throws IndexOutOfBoundsException {
        if (what < 0 || what > 1) {
            throw new IndexOutOfBoundsException("what is not 0 or 1");
        }
        return what == 0 ? faultKind : reader.place;
    }

    public int out(int k) throws IndexOutOfBoundsException {
        int token = outs.at(k);
        if (token == NONE) {
            throw new IndexOutOfBoundsException("no such token is out");
        }
        return token;
    }

    public int count(int what) throws IndexOutOfBoundsException {
        switch (what) {
            case 0:
                return outs.size();
            case 1:
                return steps;
            case 2:
                return groups.starts.size();
            case 3:
                return conditionals.size();
            case 4:
                return made;
            default:
                throw new IndexOutOfBoundsException("what is not 0 .. 4");
        }
    }

    public int category(int c) throws IndexOutOfBoundsException {
        if (!isOfText(c)) {
            throw new IndexOutOfBoundsException("no character of a text");
        }
        return reader.categoryOf(c);
    }

    public int meaning(long w, boolean active) throws NoSuchElementException {
        int meaning = meaningOfTyped(w, active);
        if (meaning == NOTHING) {
            return 0;
        }
        if (meaning <= COMMANDS) {
            return 1;
        }
        return meaning < MACRO ? 2 : 3;
    }

    public int detail(long w, boolean active, int what) throws NoSuchElementException {
        int meaning = meaningOfTyped(w, active);
        Macro macro = macroOf(meaning);
        if (what == 0) {
            if (macro != null) {
                return macro.parameters;
            }
            return meaning == NOTHING ? NONE : meaning;
        }
        if (what == 1 || what == 2) {
            if (macro == null) {
                return 0;
            }
            return what == 1 ? macro.text.size() : macro.body.size();
        }
        if (macro == null || what < 0) {
            return NONE;
        }
        int token = macro.body.at(what - 3);
        if (token >= PARAMETER) {
            return NAME_OUT + (token - PARAMETER);
        }
        return token >= NAME ? NAME_OUT : token;
    }

    private void startAnew() {
        reader.startAnew();
        names.startAnew();
        groups.startAnew();
        pending.cutTo(0);
        outs.cutTo(0);
        conditionals.cutTo(0);
        made = 0;
        steps = 0;
        faultKind = 0;
    }

    /** Ends the run with a fault; it never returns, the type only lets a caller say so. */
    private int fail(int kind) {
        faultKind = kind;
        throw new IllegalStateException("the run came to a fault");
    }

    private static boolean isOfText(int code) {
        return code == LINE_END || code >= 32 && code <= 126;
    }

    /** How many bytes of w are not 0; NONE if one of these is no character of a text. */
    private static int charactersOf(long w) {
        int characters = 0;
        for (int shift = 56; shift >= 0; shift -= 8) {
            int code = (int) (w >>> shift) & 255;
            if (code != 0 && !isOfText(code)) {
                return NONE;
            }
            if (code != 0) {
                characters++;
            }
        }
        return characters;
    }

    private int meaningOfTyped(long w, boolean active) {
        int characters = charactersOf(w);
        if (characters < 1 || active && characters > 1) {
            throw new NoSuchElementException("no characters of a name");
        }
        long head = 0;
        for (int shift = 56; shift >= 0; shift -= 8) {
            long code = w >>> shift & 255;
            if (code != 0) {
                head = head << 8 | code;
            }
        }
        return names.meaningAt(names.find(head, active ? Names.ACTIVE_TAIL : 0, false));
    }

    // Tokens and their meanings.

    private static int unmarked(int token) {
        return token & ~MARK;
    }

    /** The category of a character; of a name a number above all categories. */
    private static int categoryOf(int token) {
        return token >> 8;
    }

    /** By how much a token goes deeper into groups of braces. */
    private static int braceStep(int token) {
        int category = token >> 8;
        if (category == OPENING) {
            return 1;
        }
        return category == CLOSING ? -1 : 0;
    }

    private int meaningOf(int token) {
        if (token < NAME) {
            return token;
        }
        return token >= MARK ? RELAX : names.meaningAt(token - NAME);
    }

    private static boolean isCharacter(int meaning) {
        return meaning > COMMANDS && meaning < MACRO;
    }

    private static boolean isExpandable(int meaning) {
        if (meaning > COMMANDS) {
            return meaning >= MACRO;
        }
        return meaning >= EXPANDAFTER && meaning != ENDCSNAME;
    }

    private Macro macroOf(int meaning) {
        int number = meaning - MACRO;
        return number >= 0 && number < made && number < macros.length ? macros[number] : null;
    }

    private boolean meanTheSame(int one, int other) {
        Macro first = macroOf(one);
        Macro second = macroOf(other);
        if (first == null || second == null) {
            return one == other;
        }
        return first.text.sameAs(second.text) && first.body.sameAs(second.body);
    }

    /** The code that if compares; what is no character has one that no character has. */
    private static int codeOf(int meaning) {
        return isCharacter(meaning) ? meaning & 255 : 256;
    }

    /** The first pending token, else one that is read; NONE at the text's end, a fault if one is needed. */
    private int get(boolean needed) {
        if (pending.size() > 0) {
            return pending.takeLast();
        }
        int token = reader.read();
        if (token == Reader.ESCAPED) {
            token = reader.readName();
        }
        if (reader.trouble != 0) {
            return fail(reader.trouble);
        }
        if (token == Reader.NAMED) {
            int name = names.find(reader.head, reader.tail, true);
            return name == NONE ? fail(TOO_MANY) : NAME + name;
        }
        return token == NONE && needed ? fail(TEXT_ENDED) : token;
    }

    private int getExpanded() {
        for (int expanded = 0; expanded <= EXPANSION_LIMIT; expanded++) {
            int token = get(true);
            int meaning = meaningOf(token);
            if (!isExpandable(meaning)) {
                return token;
            }
            expand(meaning);
        }
        return fail(TOO_MANY);
    }

    private void putBack(int token) {
        if (!pending.add(token)) {
            fail(TOO_MANY);
        }
    }

    // Steps.

    private void execute(int meaning) {
        if (isExpandable(meaning)) {
            expand(meaning);
            return;
        }
        if (isCharacter(meaning)) {
            executeCharacter(meaning);
            return;
        }
        switch (meaning) {
            case PAR:
                putOut(NAME_OUT);
                break;
            case RELAX:
                break;
            case DEF:
            case GDEF:
            case EDEF:
                int name = getName();
                readMacroText();
                readBody(meaning == EDEF);
                define(name, meaning == GDEF);
                break;
            case LET:
                let();
                break;
            case CATCODE:
                changeCategory();
                break;
            case ENDCSNAME:
                fail(UNBALANCED);
                break;
            default:
                fail(UNKNOWN);
                break;
        }
    }

    private void executeCharacter(int character) {
        int category = categoryOf(character);
        if (category == OPENING) {
            if (!groups.open()) {
                fail(TOO_MANY);
            }
        } else if (category == CLOSING) {
            closeGroup();
        } else {
            putOut(character);
        }
    }

    private void putOut(int token) {
        if (!outs.add(token)) {
            fail(TOO_MANY);
        }
    }

    private void closeGroup() {
        int start = groups.starts.takeLast();
        if (start == NONE) {
            fail(UNBALANCED);
        }
        for (int k = groups.keys.size(); k > start; k--) {
            set(groups.keys.takeLast(), groups.values.takeLast());
        }
    }

    /** The key of a meaning is the name's token, that of a category the character's code. */
    private void set(int key, int value) {
        if (key >= NAME) {
            names.setMeaning(key - NAME, value);
        } else {
            reader.setCategory(key, value);
        }
    }

    private void change(int key, int value) {
        int old = key >= NAME ? names.meaningAt(key - NAME) : reader.categoryOf(key);
        if (!groups.keep(key, old)) {
            fail(TOO_MANY);
        }
        set(key, value);
    }

    private int getName() {
        int token = unmarked(get(true));
        return token < NAME ? fail(UNFIT) : token;
    }

    private void let() {
        int name = getName();
        int token = get(true);
        if (token == EQUALS) {
            token = get(true);
        }
        change(name, meaningOf(token));
    }

    private void changeCategory() {
        int token = unmarked(get(true));
        int code = token < NAME ? token & 255 : names.onlyCharacterOf(token - NAME);
        if (code == NONE) {
            fail(UNFIT);
        }
        int number = digitOf(get(true));
        if (number == NONE) {
            fail(UNFIT);
        }
        int behind = get(false);
        int digit = digitOf(behind);
        if (digit != NONE) {
            number = 10 * number + digit;
        } else if (behind != NONE) {
            putBack(behind);
        }
        if (number > CATEGORY_LIMIT) {
            fail(UNFIT);
        }
        change(code, number);
    }

    private static int digitOf(int token) {
        int digit = token - ('0' + 256 * OTHER);
        return digit >= 0 && digit <= 9 ? digit : NONE;
    }

    // Definitions.

    private void readMacroText() {
        draft.startAnew();
        for (int got = 0; got <= MACRO_TEXT_LIMIT; got++) {
            int token = unmarked(get(true));
            int category = categoryOf(token);
            if (category == OPENING) {
                return;
            }
            if (category == CLOSING) {
                fail(UNBALANCED);
            }
            if (category == HASH) {
                token = newParameter();
            }
            if (!draft.text.add(token)) {
                fail(TOO_MANY);
            }
        }
    }

    private int newParameter() {
        int digit = get(true);
        int number = draft.parameters + 1;
        if (number > PARAMETER_LIMIT || digit >= NAME || (digit & 255) != '0' + number) {
            return fail(UNFIT);
        }
        draft.parameters = number;
        return PARAMETER + number;
    }

    private void readBody(boolean expanding) {
        int depth = 0;
        for (int got = 0; got <= BODY_LIMIT; got++) {
            int token = unmarked(expanding ? getExpanded() : get(true));
            depth += braceStep(token);
            if (depth < 0) {
                return;
            }
            if (categoryOf(token) == HASH) {
                token = behindHash(expanding ? getExpanded() : get(true));
            }
            if (!draft.body.add(token)) {
                fail(TOO_MANY);
            }
        }
    }

    /** What a character of category 6 in a body and the token behind it are together. */
    private int behindHash(int token) {
        if (categoryOf(token) == HASH) {
            return token;
        }
        int number = (token & 255) - '0';
        if (token >= NAME || number < 1 || number > draft.parameters) {
            return fail(UNFIT);
        }
        return PARAMETER + number;
    }

    private void define(int name, boolean inAllGroups) {
        if (made < 0 || made >= macros.length) {
            fail(TOO_MANY);
            return;
        }
        Macro free = macros[made];
        macros[made] = draft;
        draft = free;
        int meaning = MACRO + made;
        made++;
        if (inAllGroups) {
            groups.replaceKept(name, meaning);
            set(name, meaning);
        } else {
            change(name, meaning);
        }
    }

    // Expansions.

    private void expand(int meaning) {
        if (expansions >= EXPANSION_LIMIT || openExpansions >= NESTING_LIMIT) {
            fail(TOO_MANY);
        }
        expansions++;
        openExpansions++;
        switch (meaning) {
            case EXPANDAFTER:
                expandAfter();
                break;
            case NOEXPAND:
                markNext();
                break;
            case CSNAME:
                int name = makeName();
                if (meaningOf(name) == NOTHING) {
                    change(name, RELAX);
                }
                putBack(name);
                break;
            case STRING:
                spell();
                break;
            case IF:
            case IFX:
            case IFTRUE:
            case IFFALSE:
                if (!openConditional(meaning)) {
                    pass(true);
                }
                break;
            case ELSE:
                if (conditionals.last() != FIRST_PART) {
                    fail(UNBALANCED);
                }
                pass(false);
                break;
            case FI:
                if (conditionals.last() <= TESTING) {
                    fail(UNBALANCED);
                }
                conditionals.takeLast();
                break;
            default:
                Macro macro = macroOf(meaning);
                if (macro != null) {
                    int at = matchStart(macro.text);
                    for (int p = 0; p < macro.parameters && p < arguments.length; p++) {
                        at = takeArgument(macro.text, at, arguments[p]);
                    }
                    putBodyBack(macro.body);
                }
                break;
        }
        openExpansions--;
    }

    /** Gets the tokens in front of the first parameter, and answers its place. */
    private int matchStart(Row text) {
        int end = text.nextParameter(0);
        for (int k = 0; k < end; k++) {
            if (unmarked(get(true)) != text.at(k)) {
                fail(MISMATCH);
            }
        }
        return end;
    }

    /** Takes the argument of the parameter at a place of the text, and answers the next one's place. */
    private int takeArgument(Row text, int at, Row argument) {
        int from = at + 1;
        int to = text.nextParameter(from);
        boolean parMayCome = text.holds(PAR_NAME, from, to);
        argument.cutTo(0);
        int token = get(true);
        for (int passed = 0; from == to && token == BLANK && passed < GET_LIMIT; passed++) {
            token = get(true);
        }
        int depth = 0;
        for (int got = 1; got <= ARGUMENT_LIMIT; got++) {
            token = unmarked(token);
            if (token == PAR_NAME && !parMayCome) {
                fail(PARAGRAPH);
            }
            depth += braceStep(token);
            if (depth < 0) {
                fail(UNBALANCED);
            }
            argument.add(token);
            // With no tokens behind the parameter this holds as soon as one token or one group is there.
            if (depth == 0 && argument.endsWith(text, from, to)) {
                argument.cutTo(argument.size() - (to - from));
                argument.peelGroup();
                return to;
            }
            token = get(true);
        }
        return fail(TOO_MANY);
    }

    private void putBodyBack(Row body) {
        for (int k = body.size() - 1; k >= 0; k--) {
            int token = body.at(k);
            int p = token - PARAMETER - 1;
            if (p < 0 || p >= arguments.length) {
                putBack(token);
                continue;
            }
            Row argument = arguments[p];
            for (int i = argument.size() - 1; i >= 0; i--) {
                putBack(argument.at(i));
            }
        }
    }

    private void expandAfter() {
        int first = get(true);
        int second = get(true);
        int meaning = meaningOf(second);
        if (isExpandable(meaning)) {
            expand(meaning);
        } else {
            putBack(second);
        }
        putBack(first);
    }

    private void markNext() {
        int token = get(true);
        putBack(isExpandable(meaningOf(token)) ? token | MARK : token);
    }

    /** The name of the characters up to endcsname. */
    private int makeName() {
        long head = 0;
        long tail = 0;
        int token = getExpanded();
        for (int length = 0; length <= NAME_LENGTH_LIMIT && meaningOf(token) != ENDCSNAME; length++) {
            if (token >= NAME) {
                fail(UNFIT);
            }
            if (length == NAME_LENGTH_LIMIT) {
                fail(TOO_MANY);
            }
            tail = tail << 8 | head >>> 56;
            head = head << 8 | token & 255;
            token = getExpanded();
        }
        if (head == 0) {
            fail(UNFIT);
        }
        int name = names.find(head, tail, true);
        return name == NONE ? fail(TOO_MANY) : NAME + name;
    }

    private void spell() {
        int token = unmarked(get(true));
        if (token < NAME) {
            putBack(spelled(token));
            return;
        }
        long head = names.headAt(token - NAME);
        for (int k = 0; k < 8 && head != 0; k++) {
            putBack(spelled((int) head));
            head = head >>> 8;
        }
        long tail = names.tailAt(token - NAME);
        if (tail == Names.ACTIVE_TAIL) {
            return;
        }
        for (int k = 0; k < 8 && tail != 0; k++) {
            putBack(spelled((int) tail));
            tail = tail >>> 8;
        }
        putBack(spelled('\\'));
    }

    private static int spelled(int character) {
        int code = character & 255;
        return code == ' ' ? BLANK : code + 256 * OTHER;
    }

    // Conditionals.

    /** Whether the conditional, which is open then, holds. */
    private boolean openConditional(int command) {
        if (!conditionals.add(TESTING)) {
            fail(TOO_MANY);
        }
        int level = conditionals.size();
        boolean holds = command == IFTRUE;
        if (command == IF) {
            int code = codeOf(meaningOf(getExpanded()));
            holds = code == codeOf(meaningOf(getExpanded()));
        } else if (command == IFX) {
            int meaning = meaningOf(get(true));
            holds = meanTheSame(meaning, meaningOf(get(true)));
        }
        conditionals.cutTo(level);
        if (holds) {
            conditionals.replace(level - 1, FIRST_PART);
        }
        return holds;
    }

    /** Passes tokens up to the fi that ends the latest conditional, or up to its else. */
    private void pass(boolean toElse) {
        int depth = 0;
        for (int passed = 0; passed < GET_LIMIT; passed++) {
            int meaning = meaningOf(get(true));
            if (meaning >= IF && meaning <= IFFALSE) {
                depth++;
            } else if (meaning == FI) {
                depth--;
            }
            if (depth < 0) {
                conditionals.takeLast();
                return;
            }
            if (meaning == ELSE && depth == 0 && toElse) {
                conditionals.replace(conditionals.size() - 1, SECOND_PART);
                return;
            }
        }
    }

    /** A row of ints, none of them below 0, with a limit. */
    private static final class Row {
        private final int[] items;
        private int size;

        Row(int limit) {
            items = new int[Math.max(limit, 0)];
        }

        int size() {
            return size;
        }

        /** NONE if there is none. */
        int at(int k) {
            return k >= 0 && k < size && k < items.length ? items[k] : NONE;
        }

        int last() {
            return size > 0 && size <= items.length ? items[size - 1] : NONE;
        }

        /** False, changing nothing, if it is full. */
        boolean add(int item) {
            if (size < 0 || size >= items.length) {
                return false;
            }
            items[size] = item;
            size++;
            return true;
        }

        int takeLast() {
            if (size <= 0 || size > items.length) {
                return NONE;
            }
            size--;
            return items[size];
        }

        void replace(int k, int item) {
            if (k >= 0 && k < size && k < items.length) {
                items[k] = item;
            }
        }

        void cutTo(int newSize) {
            if (newSize >= 0 && newSize < size) {
                size = newSize;
            }
        }

        boolean sameAs(Row other) {
            if (size != other.size) {
                return false;
            }
            for (int k = 0; k < size && k < items.length && k < other.items.length; k++) {
                if (items[k] != other.items[k]) {
                    return false;
                }
            }
            return true;
        }

        boolean holds(int item, int from, int to) {
            for (int k = Math.max(from, 0); k < to && k < size && k < items.length; k++) {
                if (items[k] == item) {
                    return true;
                }
            }
            return false;
        }

        boolean endsWith(Row other, int from, int to) {
            int shift = size - to;
            if (shift + from < 0) {
                return false;
            }
            for (int k = from; k < to; k++) {
                if (at(shift + k) != other.at(k)) {
                    return false;
                }
            }
            return true;
        }

        /** The place of the first parameter from a place on, or the size. */
        int nextParameter(int from) {
            for (int k = from; k < size; k++) {
                if (at(k) >= PARAMETER) {
                    return k;
                }
            }
            return size;
        }

        /** Drops the first and the last token if they are braces that belong together. */
        void peelGroup() {
            if (size < 2 || size > items.length || braceStep(items[0]) != 1) {
                return;
            }
            int depth = 1;
            for (int k = 1; k < size - 1; k++) {
                depth += braceStep(items[k]);
                if (depth == 0) {
                    return;
                }
            }
            System.arraycopy(items, 1, items, 0, size - 2);
            size -= 2;
        }
    }

    private static final class Macro {
        final Row text;
        final Row body;
        int parameters;

        Macro() {
            text = new Row(MACRO_TEXT_LIMIT);
            body = new Row(BODY_LIMIT);
        }

        void startAnew() {
            text.cutTo(0);
            body.cutTo(0);
            parameters = 0;
        }
    }

    /**
     * The names that are known, the commands' first. The last eight characters of a name are the bytes of its head, up
     * to three in front of them those of its tail; an active name has a tail that no other one has.
     */
    private static final class Names {
        static final long ACTIVE_TAIL = -1L;

        private final long[] heads;
        private final long[] tails;
        private final int[] meanings;
        private int known;

        Names() {
            heads = new long[COMMANDS + NAME_LIMIT];
            tails = new long[COMMANDS + NAME_LIMIT];
            meanings = new int[COMMANDS + NAME_LIMIT];
            long head = 0;
            long tail = 0;
            for (int k = 0; k < COMMAND_NAMES.length(); k++) {
                char c = COMMAND_NAMES.charAt(k);
                if (c != ' ') {
                    tail = tail << 8 | head >>> 56;
                    head = head << 8 | c;
                } else if (known < heads.length) {
                    heads[known] = head;
                    tails[known] = tail;
                    known++;
                    head = 0;
                    tail = 0;
                }
            }
            startAnew();
        }

        void startAnew() {
            known = COMMANDS;
            for (int k = 0; k < meanings.length; k++) {
                meanings[k] = k < COMMANDS ? k + 1 : NOTHING;
            }
        }

        /** The place of a name; NONE if it is not known and can't become so. */
        int find(long head, long tail, boolean learning) {
            for (int k = 0; k < known && k < heads.length; k++) {
                if (heads[k] == head && tails[k] == tail) {
                    return k;
                }
            }
            if (!learning || known < 0 || known >= heads.length) {
                return NONE;
            }
            heads[known] = head;
            tails[known] = tail;
            known++;
            return known - 1;
        }

        int meaningAt(int k) {
            return k >= 0 && k < known && k < meanings.length ? meanings[k] : NOTHING;
        }

        void setMeaning(int k, int meaning) {
            if (k >= 0 && k < known && k < meanings.length) {
                meanings[k] = meaning;
            }
        }

        long headAt(int k) {
            return k >= 0 && k < known && k < heads.length ? heads[k] : 0;
        }

        long tailAt(int k) {
            return k >= 0 && k < known && k < tails.length ? tails[k] : 0;
        }

        /** The character of a name of one character; NONE of a longer one. */
        int onlyCharacterOf(int k) {
            long head = headAt(k);
            return head > 0 && head < 256 ? (int) head : NONE;
        }
    }

    /** The groups that are open, and the values that come back when they are closed. */
    private static final class Groups {
        final Row starts;
        final Row keys;
        final Row values;

        Groups() {
            starts = new Row(GROUP_LIMIT);
            keys = new Row(KEPT_LIMIT);
            values = new Row(KEPT_LIMIT);
        }

        void startAnew() {
            starts.cutTo(0);
            keys.cutTo(0);
            values.cutTo(0);
        }

        boolean open() {
            return starts.add(keys.size());
        }

        /** False if the value would have to be kept and can't be. */
        boolean keep(int key, int value) {
            int start = starts.last();
            if (start == NONE || keys.holds(key, start, keys.size())) {
                return true;
            }
            return keys.add(key) && values.add(value);
        }

        void replaceKept(int key, int value) {
            for (int k = 0; k < keys.size(); k++) {
                if (keys.at(k) == key) {
                    values.replace(k, value);
                }
            }
        }
    }

    /** The text, how far it is read, and the categories by which it is read. */
    private static final class Reader {
        /** Answers of read(): an escape character was read, or the name in head and tail. */
        static final int ESCAPED = -2;
        static final int NAMED = -3;

        private static final int NEW = 0;
        private static final int MIDDLE = 1;
        private static final int SKIPPING = 2;

        private final int[] text;
        private final int[] categories;
        private int length;
        private int state;
        int place;
        /** The fault that the reading came to, 0 without. */
        int trouble;
        long head;
        long tail;

        Reader() {
            text = new int[TEXT_LIMIT];
            categories = new int[128];
            startAnew();
        }

        void forgetText() {
            length = 0;
        }

        void startAnew() {
            place = 0;
            state = NEW;
            trouble = 0;
            Arrays.fill(categories, OTHER);
            for (int k = 0; k < 26; k++) {
                categories['a' + k] = LETTER;
                categories['A' + k] = LETTER;
            }
            categories['\\'] = ESCAPE;
            categories['{'] = OPENING;
            categories['}'] = CLOSING;
            categories['$'] = 3;
            categories['&'] = 4;
            categories[LINE_END] = LINE_ENDING;
            categories['#'] = HASH;
            categories['^'] = 7;
            categories['_'] = 8;
            categories[' '] = SPACING;
            categories['~'] = ACTIVE;
            categories['%'] = COMMENT;
        }

        int categoryOf(int code) {
            return categories[code & 127];
        }

        void setCategory(int code, int category) {
            categories[code & 127] = category;
        }

        boolean append(long w) {
            int characters = charactersOf(w);
            if (characters == NONE || length + characters > TEXT_LIMIT) {
                return false;
            }
            for (int shift = 56; shift >= 0; shift -= 8) {
                int code = (int) (w >>> shift) & 255;
                if (code != 0 && length >= 0 && length < text.length) {
                    text[length] = code;
                    length++;
                }
            }
            return true;
        }

        /** The next character token or the name par; ESCAPED, NAMED, or NONE at the end and in trouble. */
        int read() {
            for (int tries = 0; tries < TEXT_LIMIT && place >= 0 && place < length && place < text.length; tries++) {
                int code = text[place];
                place++;
                int category = categories[code & 127];
                int before = state;
                switch (category) {
                    case ESCAPE:
                        return ESCAPED;
                    case LINE_ENDING:
                    case COMMENT:
                        for (int last = code; last != LINE_END && place < length && place < text.length; place++) {
                            last = text[place];
                        }
                        state = NEW;
                        if (category == LINE_ENDING && before != SKIPPING) {
                            return before == NEW ? PAR_NAME : BLANK;
                        }
                        break;
                    case IGNORED:
                        break;
                    case SPACING:
                        if (before == MIDDLE) {
                            state = SKIPPING;
                            return BLANK;
                        }
                        break;
                    case ACTIVE:
                        state = MIDDLE;
                        head = code;
                        tail = Names.ACTIVE_TAIL;
                        return NAMED;
                    case FORBIDDEN:
                        trouble = INVALID;
                        return NONE;
                    default:
                        state = MIDDLE;
                        return code + 256 * category;
                }
            }
            return NONE;
        }

        /** Reads the name behind an escape character. */
        int readName() {
            if (place < 0 || place >= length || place >= text.length) {
                trouble = TEXT_ENDED;
                return NONE;
            }
            head = text[place];
            tail = 0;
            int category = categories[text[place] & 127];
            place++;
            state = category == LETTER || category == SPACING ? SKIPPING : MIDDLE;
            if (category != LETTER) {
                return NAMED;
            }
            for (int letters = 1; place < length && place < text.length; letters++) {
                int code = text[place];
                if (categories[code & 127] != LETTER) {
                    return NAMED;
                }
                place++;
                if (letters == NAME_LENGTH_LIMIT) {
                    trouble = TOO_MANY;
                    return NONE;
                }
                tail = tail << 8 | head >>> 56;
                head = head << 8 | code;
            }
            return NAMED;
        }
    }
}
