import java.util.Arrays;

/**
 * A store of triples with six sorted orderings, rules whose consequences are kept as facts come
 * and go, and a language in which it is asked and changed. What it must do stands in the project's
 * document, as numbered promises; "part" in the comments is a part of that document.
 */
public final class TripleStore {
    public static final int BAD = -1;
    public static final int FULL = -2;

    // What there is room for.
    private static final int MAX_TEXT = 4000;
    private static final int MAX_TRIPLES = 2000;
    private static final int MAX_TERMS = 800;
    private static final int MAX_RULES = 16;
    private static final int MAX_CHOICES = 10000;
    private static final int MAX_MADE = 8000;
    private static final int MAX_LIFE = 20000;
    private static final int MAX_TERMS_MADE = 1000;
    private static final int MAX_BYTES_MADE = 16000;
    private static final int MAX_VARIABLES = 24;
    private static final int MAX_VARIABLE_NAME = 12;
    private static final int MAX_NODES = 200;
    private static final int MAX_GROUPS = 40;
    private static final int MAX_NESTED = 8;
    private static final int MAX_BRACKETS = 8;
    private static final int MAX_SIGNS = 4;
    private static final int MAX_PATTERNS = 7;
    private static final int MAX_LINES = 40;
    private static final int MAX_STEPS = 20;
    private static final int MAX_PATH_BRACKETS = 6;
    private static final int MAX_ITEMS = 12;
    private static final int MAX_KEYS = 6;
    private static final int MAX_GIVEN = 40;
    private static final int MAX_COLUMNS = 8;
    private static final int MAX_BODY = 4;
    private static final int MAX_HEAD = 3;
    private static final int MAX_NAME = 40;
    private static final int MAX_TAG = 8;
    private static final int MAX_BYTES = 64;
    private static final int MAX_SCALE = 9;
    private static final int MAX_DIGITS = 18;

    // Bounds of our own, above what a statement can need.
    private static final int MAX_ROWS = 9000;
    private static final int MAX_IDS = 8000;
    private static final int MAX_WRITTEN = 200;
    private static final int MAX_LEVELS = 48;
    private static final int PLENTY = 1000000;

    private static final long LARGEST = 999999999999999999L;
    private static final long BILLION = 1000000000L;
    private static final long MAX_SIZE = 1000000000000L;
    private static final long[] TEN = {1L, 10L, 100L, 1000L, 10000L, 100000L, 1000000L, 10000000L,
        100000000L, 1000000000L};

    // Faults.
    private static final int NO_TOKEN = 1;
    private static final int OUT_OF_PLACE = 2;
    private static final int NO_SPACE = 3;
    private static final int FORBIDDEN = 4;
    private static final int TOO_MUCH = 5;
    private static final int NO_ROOM = 6;
    private static final int NO_RULE = 7;

    // Kinds of terms.
    private static final int BLANK = 1;
    private static final int NAME = 2;
    private static final int WHOLE = 3;
    private static final int DECIMAL = 4;
    private static final int TEXT = 5;
    private static final int TAGGED = 6;
    private static final int TYPED = 7;
    private static final int TRUTH = 8;

    // Kinds of tokens.
    private static final int AT_END = 0;
    private static final int AT_TERM = 1;
    private static final int AT_VARIABLE = 2;
    private static final int AT_WORD = 3;
    private static final int AT_SIGN = 4;
    private static final int AT_NOTHING = 5;

    // A sign of two bytes is the number of its first byte and this.
    private static final int TWO = 256;

    // The words: a word's number is where it stands in KEYWORDS, from 1, or in FUNCTIONS, behind.
    private static final String KEYWORDS = "SELECT DISTINCT WHERE ASK CONSTRUCT INSERT DATA DELETE RULE UNRULE CLEAR AS GROUP BY HAVING ORDER LIMIT OFFSET ASC DESC FILTER NOT EXISTS OPTIONAL MINUS UNION BIND VALUES UNDEF IN a BOUND ";
    private static final String FUNCTIONS = "IF COALESCE CONCAT STRLEN UCASE LCASE STR LANG DATATYPE TONAME ISNAME ISBLANK ISLITERAL ISNUMERIC ABS CEIL FLOOR ROUND STRSTARTS STRENDS CONTAINS STRBEFORE STRAFTER SAMETERM SUBSTR COUNT SUM MIN MAX AVG SAMPLE GROUPCONCAT ";
    private static final int SELECT = 1;
    private static final int DISTINCT = 2;
    private static final int WHERE = 3;
    private static final int ASK = 4;
    private static final int CONSTRUCT = 5;
    private static final int INSERT = 6;
    private static final int DATA = 7;
    private static final int DELETE = 8;
    private static final int RULE = 9;
    private static final int UNRULE = 10;
    private static final int CLEAR = 11;
    private static final int AS = 12;
    private static final int GROUP = 13;
    private static final int BY = 14;
    private static final int HAVING = 15;
    private static final int ORDER = 16;
    private static final int LIMIT = 17;
    private static final int OFFSET = 18;
    private static final int ASC = 19;
    private static final int DESC = 20;
    private static final int FILTER = 21;
    private static final int NOT = 22;
    private static final int EXISTS = 23;
    private static final int OPTIONAL = 24;
    private static final int MINUS = 25;
    private static final int UNION = 26;
    private static final int BIND = 27;
    private static final int VALUES = 28;
    private static final int UNDEF = 29;
    private static final int IN = 30;
    private static final int WORD_A = 31;
    private static final int BOUND = 32;
    private static final int IF = 33;
    private static final int COALESCE = 34;
    private static final int CONCAT = 35;
    private static final int STRLEN = 36;
    private static final int UCASE = 37;
    private static final int LCASE = 38;
    private static final int STR = 39;
    private static final int LANG = 40;
    private static final int DATATYPE = 41;
    private static final int TONAME = 42;
    private static final int ISNAME = 43;
    private static final int ISBLANK = 44;
    private static final int ISLITERAL = 45;
    private static final int ISNUMERIC = 46;
    private static final int ABS = 47;
    private static final int CEIL = 48;
    private static final int FLOOR = 49;
    private static final int ROUND = 50;
    private static final int STRSTARTS = 51;
    private static final int STRENDS = 52;
    private static final int CONTAINS = 53;
    private static final int STRBEFORE = 54;
    private static final int STRAFTER = 55;
    private static final int SAMETERM = 56;
    private static final int SUBSTR = 57;
    private static final int COUNT = 58;
    private static final int SUM = 59;
    private static final int MIN = 60;
    private static final int MAX = 61;
    private static final int AVG = 62;
    private static final int SAMPLE = 63;
    private static final int GROUPCONCAT = 64;
    private static final int[] LEAST = {3, 1, 0, 1, 1, 1, 1, 1, 1, 1, 1, 1, 1, 1, 1, 1, 1, 1,
        2, 2, 2, 2, 2, 2, 3};
    private static final int[] MOST = {3, 8, 8, 1, 1, 1, 1, 1, 1, 1, 1, 1, 1, 1, 1, 1, 1, 1,
        2, 2, 2, 2, 2, 2, 3};

    // Kinds of nodes beside the words.
    private static final int OR = 101;
    private static final int AND = 102;
    private static final int EQUAL = 103;
    private static final int UNEQUAL = 104;
    private static final int LESS = 105;
    private static final int GREATER = 106;
    private static final int AT_MOST = 107;
    private static final int AT_LEAST = 108;
    private static final int PLUS = 109;
    private static final int TAKE = 110;
    private static final int TIMES = 111;
    private static final int OVER = 112;
    private static final int OPPOSITE = 113;
    private static final int NEGATION = 114;
    private static final int CONSTANT = 115;
    private static final int VARIABLE = 116;
    private static final int BRACKET = 117;
    private static final int ITEM = 120;
    private static final int GROUP_ITEM = 121;
    private static final int KEY = 122;
    private static final int BLOCK = 123;
    private static final int PATTERN = 124;
    private static final int PATH_LINE = 125;
    private static final int FACT = 126;
    private static final int GIVEN = 127;
    private static final int STEP = 130;
    private static final int STEP_OTHER = 131;
    private static final int STEP_BACK = 132;
    private static final int STEP_ROW = 133;
    private static final int STEP_CHOICE = 134;
    private static final int STEP_MAYBE = 135;
    private static final int STEP_ANY = 136;
    private static final int STEP_SOME = 137;

    // How facts are read.
    private static final int IN_DATA = 0;
    private static final int IN_TEMPLATE = 1;
    private static final int IN_BODY = 2;
    private static final int IN_HEAD = 3;

    // The places of the six orderings, and the parts of a key that is packed in each of them.
    private static final int[] PLACES = {0, 1, 2, 0, 2, 1, 1, 0, 2, 1, 2, 0, 2, 0, 1, 2, 1, 0};
    private static final int[] SHIFTS = {20, 10, 0, 20, 0, 10, 10, 20, 0, 0, 20, 10, 10, 0, 20, 0, 10, 20};
    private static final int DIGIT = 1023;

    private final byte[] text = new byte[MAX_TEXT];
    private int length;
    private final Terms terms;
    private final Triples triples;
    private final Rules rules;
    private final Tokens tokens;
    private final Parser parser;
    private final Rows rows;
    private final Blocks blocks;
    private final Groups groups;
    private final byte[] buffer = new byte[MAX_WRITTEN];
    private int buffered;

    // What the latest statement left.
    private int foundAt;
    private int fault;
    private int madeLately;
    private int spent;
    private Node shown;
    private int shownRows;

    public TripleStore() {
        terms = new Terms();
        triples = new Triples();
        rules = new Rules(terms, triples);
        tokens = new Tokens(text, terms);
        parser = new Parser(tokens, terms);
        rows = new Rows(terms);
        blocks = new Blocks(terms, triples, rows);
        Expressions expressions = new Expressions(terms, rows);
        groups = new Groups(terms, rows, blocks, expressions);
        expressions.groups = groups;
    }

    public int type(long bytes, int n) {
        if (n < 1 || n > 8) {
            return BAD;
        }
        if (length + n > MAX_TEXT) {
            return FULL;
        }
        for (int i = n - 1; i >= 0; i--) {
            text[length] = (byte) (bytes >>> (8 * i));
            length++;
        }
        return length;
    }

    public int wipe() {
        int was = length;
        length = 0;
        return was;
    }

    public int run() {
        int typed = length;
        length = 0;
        shown = null;
        shownRows = 0;
        blocks.planned = 0;
        terms.dropLoose();
        rows.begin(0, 0, 0);
        tokens.read(typed);
        Node s = parser.statement();
        fault = tokens.fault;
        if (fault == 0) {
            fill(s);
        }
        int answer = 0;
        switch (fault == 0 ? s.kind : 0) {
            case 0:
                break;
            case SELECT:
                answer = show(s);
                break;
            case ASK:
                answer = rows.top > 0 ? 1 : 0;
                break;
            case CONSTRUCT:
                answer = construct(s);
                break;
            case RULE:
                answer = addRule(s);
                break;
            case UNRULE:
                answer = dropRule(s.count);
                break;
            case CLEAR:
                answer = triples.sayings;
                triples.clear();
                rules.choices = 0;
                break;
            default:
                answer = change(s);
        }
        account(typed);
        return fault == 0 ? answer : -100 - fault;
    }

    public int place() {
        return foundAt;
    }

    public int rows() {
        return shownRows;
    }

    public int columns() {
        return shown == null ? 0 : shown.size;
    }

    public int cell(int row, int column) {
        if (shown == null || row < 0 || row >= shownRows || column < 0 || column >= shown.size) {
            return BAD;
        }
        buffered = terms.write(rows.get(row, shown.listed(column)), buffer);
        return buffered;
    }

    public int column(int column) {
        if (shown == null || column < 0 || column >= shown.size) {
            return BAD;
        }
        if (shown.kind == CONSTRUCT) {
            buffer[0] = (byte) (column == 0 ? 's' : column == 1 ? 'p' : 'o');
            buffered = 1;
        } else {
            buffered = tokens.writeVariable(shown.listed(column), buffer);
        }
        return buffered;
    }

    public int written(int i) {
        return i >= 0 && i < buffered && i < MAX_WRITTEN ? buffer[i] : BAD;
    }

    public int made() {
        return madeLately;
    }

    public int plan(int k) {
        return blocks.plannedPattern(k);
    }

    public int triples() {
        return triples.size;
    }

    public int said() {
        return triples.sayings;
    }

    public int terms() {
        return terms.numbered;
    }

    public int rules() {
        return rules.size;
    }

    public int term(int number) {
        if (number < 1 || number > terms.numbered) {
            return BAD;
        }
        buffered = terms.write(number, buffer);
        return buffered;
    }

    public int find(int order, int k, int part) {
        if (order < 0 || order > 5 || k < 0 || k >= triples.size || part < 0 || part > 3) {
            return BAD;
        }
        triples.arrange();
        int s = triples.part(order, k, 0);
        int p = triples.part(order, k, 1);
        int o = triples.part(order, k, 2);
        if (part == 3) {
            return triples.isSaid(triples.seek(s, p, o)) ? 1 : 0;
        }
        return part == 0 ? s : part == 1 ? p : o;
    }

    public int count(int order, int n, int a, int b, int c) {
        if (order < 0 || order > 5 || n < 0 || n > 3) {
            return BAD;
        }
        boolean strange = n > 0 && !terms.isNumber(a) || n > 1 && !terms.isNumber(b)
            || n > 2 && !terms.isNumber(c);
        if (strange) {
            return 0;
        }
        triples.arrange();
        triples.locate(order, n, n > 0 ? a : 0, n > 1 ? b : 0, n > 2 ? c : 0);
        return triples.to - triples.from;
    }

    /** Books what the statement made, and tells where its fault was. */
    private void account(int typed) {
        madeLately = 0;
        foundAt = 0;
        if (tokens.fault != 0) {
            foundAt = tokens.faultPlace;
        } else if (fault == TOO_MUCH) {
            madeLately = MAX_MADE;
            spent += Math.min(MAX_MADE, MAX_LIFE - spent);
        } else {
            spent += rows.made;
            if (fault == 0) {
                madeLately = rows.made;
                foundAt = typed;
            }
        }
        if (fault != 0) {
            shown = null;
            shownRows = 0;
        }
        if (fault != 0 && fault != TOO_MUCH) {
            blocks.planned = 0;
        }
    }

    /** Makes the plans and does the statement's group, if it has one; else there is the empty row. */
    private void fill(Node s) {
        rows.begin(tokens.variables, parser.keyed ? MAX_KEYS : 0, Math.min(MAX_MADE, MAX_LIFE - spent));
        groups.begin();
        if (s.inner != null) {
            triples.arrange();
            blocks.planAll(parser.firstBlock);
        }
        if (s.kind == SELECT) {
            groups.select(s, 0);
        } else {
            rows.push();
            if (s.inner != null) {
                groups.group(s.inner, 0, true);
            }
        }
        if (rows.over) {
            fault = TOO_MUCH;
        }
    }

    /** All rows that are there are the result. */
    private int show(Node s) {
        if (rows.over) {
            fault = TOO_MUCH;
        }
        shown = s;
        shownRows = rows.top;
        return shownRows;
    }

    private int construct(Node s) {
        int end = rows.top;
        give(s.first, end, true);
        rows.close(end, 0);
        rows.compareTriples();
        rows.sort(0, rows.top);
        for (int i = 0; i < 3; i++) {
            s.list(i);
        }
        return show(s);
    }

    /** Puts behind all rows the triples that facts give for the first rows, each once. */
    private void give(Node facts, int givers, boolean counted) {
        if (facts == null) {
            return;
        }
        rows.compareTriples();
        rows.beginSeen(Math.min(MAX_ROWS, givers * facts.size));
        for (int r = 0; r < givers && !rows.over; r++) {
            for (Node f = facts.first; f != null && !rows.over; f = f.next) {
                giveOne(f, r, counted);
            }
        }
    }

    private void giveOne(Node f, int row, boolean counted) {
        int s = rows.resolve(f.subject, row);
        int p = rows.resolve(f.verb, row);
        int o = rows.resolve(f.object, row);
        if (o == 0 || !terms.mayStand(s, p)) {
            return;
        }
        int given = rows.push();
        rows.set(given, 0, s);
        rows.set(given, 1, p);
        rows.set(given, 2, o);
        if (!rows.isNew(given)) {
            rows.top = given;
        } else if (counted) {
            rows.spend(1);
        }
    }

    /** DELETE and INSERT, with DATA or a group. */
    private int change(Node s) {
        Node gone = s.first;
        Node come = s.last;
        if (gone != null && gone.kind != DELETE) {
            gone = null;
        }
        if (come != null && come.kind != INSERT) {
            come = null;
        }
        int givers = rows.top;
        give(gone, givers, s.inner != null);
        int middle = rows.top;
        give(come, givers, s.inner != null);
        if (rows.over) {
            fault = TOO_MUCH;
            return 0;
        }
        int before = terms.numbered;
        int end = rows.top;
        triples.backUp();
        int changed = unsay(givers, middle);
        if (changed > 0) {
            triples.keepSaid();
        }
        if (numberTerms(middle, end)) {
            changed += say(middle, end);
        } else {
            fault = NO_ROOM;
        }
        if (fault != 0 || !rules.follow()) {
            fault = NO_ROOM;
            terms.forget(before);
            triples.restore();
            rules.follow();
        }
        return changed;
    }

    private int unsay(int from, int to) {
        int changed = 0;
        for (int r = from; r < to; r++) {
            changed += triples.unsay(rows.get(r, 0), rows.get(r, 1), rows.get(r, 2));
        }
        return changed;
    }

    private int say(int from, int to) {
        int changed = 0;
        for (int r = from; r < to && fault == 0; r++) {
            int news = triples.say(rows.get(r, 0), rows.get(r, 1), rows.get(r, 2));
            if (news < 0) {
                fault = NO_ROOM;
            }
            changed += news;
        }
        return changed;
    }

    /** Gives numbers to the terms of rows that have none, in THE ORDER, and puts them into the rows. */
    private boolean numberTerms(int from, int to) {
        int base = rows.top;
        terms.unmark();
        for (int r = from; r < to; r++) {
            for (int i = 0; i < 3; i++) {
                int id = rows.get(r, i);
                if (id > MAX_TERMS && terms.mark(id)) {
                    if (terms.numbered + rows.top - base >= MAX_TERMS) {
                        rows.top = base;
                        return false;
                    }
                    rows.set(rows.push(), 0, id);
                }
            }
        }
        rows.compareNone();
        rows.compareBy(0, false);
        rows.sort(base, rows.top);
        terms.dropLoose();
        for (int r = base; r < rows.top; r++) {
            terms.number(rows.get(r, 0));
        }
        rows.top = base;
        for (int r = from; r < to; r++) {
            for (int i = 0; i < 3; i++) {
                rows.set(r, i, terms.numberOf(rows.get(r, i)));
            }
        }
        return true;
    }

    private int addRule(Node s) {
        int body = 0;
        rows.top = 0;
        for (Node facts = s.first; facts != null; facts = facts.next) {
            for (Node f = facts.first; f != null; f = f.next) {
                int row = rows.push();
                rows.set(row, 0, f.subject);
                rows.set(row, 1, f.verb);
                rows.set(row, 2, f.object);
            }
            body = body == 0 ? rows.top : body;
        }
        int before = terms.numbered;
        if (rules.size >= MAX_RULES || !numberTerms(0, rows.top)) {
            fault = NO_ROOM;
            return 0;
        }
        rules.append(rows, body);
        triples.keepSaid();
        if (!rules.follow()) {
            fault = NO_ROOM;
            rules.drop(rules.size - 1);
            terms.forget(before);
            triples.keepSaid();
            rules.follow();
        }
        return rules.size - 1;
    }

    private int dropRule(int number) {
        if (number >= rules.size) {
            fault = NO_RULE;
            return 0;
        }
        rules.drop(number);
        triples.keepSaid();
        rules.follow();
        return rules.size;
    }

    /** A piece of a statement: a statement, group, part, line, path, item or piece of an expression. */
    private static final class Node {
        final int kind;
        int at;                 // where it stands in the text
        int variable;           // the variable that it is, or that it gets a value for
        int subject;            // of a line or fact: a term's id, or -1 - a variable
        int verb;
        int object;
        int count;              // a number that it has: LIMIT, UNRULE, a pattern's, a group's price
        boolean distinct;
        boolean star;
        boolean negated;        // NOT, DESC, or the ^ of a name behind !
        boolean grouped;
        int[] list;             // variables that are visible in it, columns, or terms given
        int size;               // how many of these; of a block how many patterns
        Node first;             // its pieces
        Node last;
        Node next;              // the piece beside it
        Node inner;             // its group, SELECT or path
        Node start;             // its expression's nodes, in the order in which they are worked out
        Node tail;
        Node follow;            // the next of these; of blocks the next block of the text
        Node outer;             // while it is read: what is open around it
        Value value;            // what it was worth when it was last worked out

        Node(int kind, int at) {
            this.kind = kind;
            this.at = at;
        }

        Node add(Node piece) {
            if (piece == null) {
                return this;
            }
            if (last == null) {
                first = piece;
            } else {
                last.next = piece;
            }
            last = piece;
            return piece;
        }

        /** Puts a node behind those that its expression has so far. */
        void append(Node node) {
            if (node == null) {
                return;
            }
            if (tail == null) {
                start = node;
            } else {
                tail.follow = node;
            }
            tail = node;
        }

        void list(int item) {
            if (list == null) {
                list = new int[MAX_VARIABLES];
            }
            if (size < list.length) {
                list[size] = item;
                size++;
            }
        }

        int listed(int i) {
            return list != null && i >= 0 && i < size && i < list.length ? list[i] : 0;
        }

        boolean lists(int item) {
            for (int i = 0; list != null && i < size && i < list.length; i++) {
                if (list[i] == item) {
                    return true;
                }
            }
            return false;
        }

        /** Makes a variable visible; where it is already, it keeps its first place. */
        void bring(int item) {
            if (!lists(item)) {
                list(item);
            }
        }

        Value worth(int i) {
            Node piece = first;
            for (int k = 0; k < i && piece != null; k++) {
                piece = piece.next;
            }
            return piece == null ? null : piece.value;
        }
    }

    /** What an expression is worth: what a term is made of, or ERROR (kind 0). */
    private static final class Value {
        int kind;
        int id;                 // the term's id, when it is known
        long number;            // of a number the unscaled one; of a truth 1 or 0
        int scale;
        final byte[] text = new byte[MAX_BYTES];
        int length;
        final byte[] extra = new byte[MAX_NAME];    // tag or type
        int extraLength;

        void become(int newKind) {
            kind = newKind;
            id = 0;
            number = 0;
            scale = 0;
            length = 0;
            extraLength = 0;
        }

        void numeric(int newKind, long unscaled, int newScale) {
            become(newKind);
            number = unscaled;
            scale = newScale;
        }

        void truth(int truth) {
            become(truth < 0 ? 0 : TRUTH);
            number = truth > 0 ? 1 : 0;
        }

        /** A byte more; with more than there is room for it is an ERROR. */
        void append(int b) {
            if (length < text.length) {
                text[length] = (byte) b;
                length++;
            } else {
                kind = 0;
            }
        }

        void appendExtra(int b) {
            if (extraLength < extra.length) {
                extra[extraLength] = (byte) b;
                extraLength++;
            }
        }

        void appendAll(Value other) {
            for (int i = 0; i < other.length && i < other.text.length; i++) {
                append(other.text[i]);
            }
        }

        void spell(int newKind, String constant) {
            become(newKind);
            for (int i = 0; i < constant.length(); i++) {
                append(constant.charAt(i));
            }
        }

        void copy(Value other) {
            become(other.kind);
            id = other.id;
            number = other.number;
            scale = other.scale;
            length = other.length;
            System.arraycopy(other.text, 0, text, 0, text.length);
            takeExtra(other);
        }

        /** Takes tag or type of another one. */
        void takeExtra(Value other) {
            extraLength = other.extraLength;
            System.arraycopy(other.extra, 0, extra, 0, extra.length);
        }

        /** Becomes those bytes of a plain text from place on and before end. */
        void cut(Value other, long from, long end) {
            become(other.kind);
            takeExtra(other);
            for (int i = 0; i < other.length && i < other.text.length; i++) {
                if (i >= from && i < end) {
                    append(other.text[i]);
                }
            }
        }

        boolean isNumber() {
            return kind == WHOLE || kind == DECIMAL;
        }

        boolean isPlain() {
            return kind == TEXT || kind == TAGGED;
        }

        /** 1, 0, or -1 where there is no truth. */
        int asTruth() {
            if (kind == TRUTH || isNumber()) {
                return number != 0 ? 1 : 0;
            }
            return kind == TEXT ? (length > 0 ? 1 : 0) : -1;
        }

        boolean sameExtra(Value other) {
            return compareBytes(extra, 0, extraLength, other.extra, 0, other.extraLength) == 0;
        }

        boolean isSame(Value other) {
            return kind == other.kind && number == other.number && scale == other.scale
                && compareBytes(text, 0, length, other.text, 0, other.length) == 0
                && compareBytes(extra, 0, extraLength, other.extra, 0, other.extraLength) == 0;
        }

        boolean hasAt(int place, Value part) {
            for (int i = 0; i < part.length && i < part.text.length; i++) {
                int k = place + i;
                if (k < 0 || k >= length || k >= text.length || text[k] != part.text[i]) {
                    return false;
                }
            }
            return place >= 0 && place + part.length <= length;
        }

        /** The first place where a part is; -1 when it is nowhere. */
        int search(Value part) {
            for (int i = 0; i + part.length <= length; i++) {
                if (hasAt(i, part)) {
                    return i;
                }
            }
            return -1;
        }

        /** The part of a number before the dot, rounded down. */
        long whole() {
            return scale >= 0 && scale <= MAX_SCALE ? Math.floorDiv(number, TEN[scale]) : 0;
        }

        /** What a number has above whole(), in billionths. */
        long billionths() {
            return scale >= 0 && scale <= MAX_SCALE ? Math.floorMod(number, TEN[scale]) * TEN[MAX_SCALE - scale] : 0;
        }

        int compareNumber(Value other) {
            int by = Long.compare(whole(), other.whole());
            return by != 0 ? by : Long.compare(billionths(), other.billionths());
        }

        /** Becomes the STRING of another one, as a text; an ERROR when that has none. */
        void string(Value other) {
            switch (other.kind) {
                case NAME:
                case TEXT:
                case TAGGED:
                case TYPED:
                    become(TEXT);
                    appendAll(other);
                    break;
                case WHOLE:
                case DECIMAL:
                    become(TEXT);
                    length = writeNumber(other.number, other.scale, other.kind == DECIMAL, text);
                    break;
                case TRUTH:
                    spell(TEXT, other.number != 0 ? "true" : "false");
                    break;
                default:
                    become(0);
            }
        }
    }

    private static int compareBytes(byte[] a, int from, int length, byte[] b, int otherFrom, int otherLength) {
        for (int i = 0; i < length && i < otherLength; i++) {
            if (from + i < 0 || from + i >= a.length || otherFrom + i < 0 || otherFrom + i >= b.length) {
                return 0;
            }
            if (a[from + i] != b[otherFrom + i]) {
                return a[from + i] < b[otherFrom + i] ? -1 : 1;
            }
        }
        return Integer.compare(length, otherLength);
    }

    /** Writes a number at the beginning of a row of bytes: how many. */
    private static int writeNumber(long unscaled, int scale, boolean decimal, byte[] out) {
        int digits = 1;
        for (long rest = Math.abs(unscaled) / 10; rest > 0 && digits <= MAX_DIGITS; rest /= 10) {
            digits++;
        }
        digits = Math.max(digits, scale + 1);
        int behind = decimal ? Math.max(1, scale) : 0;
        int end = (unscaled < 0 ? 1 : 0) + digits + (decimal ? 1 + behind - scale : 0);
        long rest = Math.abs(unscaled);
        if (decimal && scale == 0) {
            putByte(out, end - 1, '0');
        }
        int at = decimal && scale == 0 ? end - 2 : end - 1;
        for (int i = 0; i < digits; i++) {
            if (decimal && i == scale) {
                putByte(out, at, '.');
                at--;
            }
            putByte(out, at, (int) ('0' + rest % 10));
            rest /= 10;
            at--;
        }
        if (unscaled < 0) {
            putByte(out, 0, '-');
        }
        return end;
    }

    private static void putByte(byte[] out, int at, int b) {
        if (at >= 0 && at < out.length) {
            out[at] = (byte) b;
        }
    }

    private static boolean isDigit(int b) {
        return b >= '0' && b <= '9';
    }

    private static boolean isSmall(int b) {
        return b >= 'a' && b <= 'z';
    }

    private static boolean isCapital(int b) {
        return b >= 'A' && b <= 'Z';
    }

    private static boolean isLetter(int b) {
        return isSmall(b) || isCapital(b);
    }

    private static boolean isWordByte(int b) {
        return isLetter(b) || isDigit(b) || b == '_';
    }

    private static boolean isNameByte(int b) {
        switch (b) {
            case '<':
            case '>':
            case '"':
            case '\\':
            case '^':
            case '{':
            case '|':
            case '}':
            case 96:
                return false;
            default:
                return b >= 33 && b <= 126;
        }
    }

    /** Terms with their ids: numbers up to MAX_TERMS; behind them those that a statement has beside. */
    private static final class Terms {
        private final byte[] kinds = new byte[MAX_IDS];
        private final byte[] scales = new byte[MAX_IDS];
        private final byte[] lengths = new byte[MAX_IDS];
        private final byte[] extras = new byte[MAX_IDS];
        private final long[] numbers = new long[MAX_IDS];
        private final int[] starts = new int[MAX_IDS];
        private final int[] hashes = new int[MAX_IDS];
        private final int[] nexts = new int[MAX_IDS];
        private final int[] marks = new int[MAX_IDS];
        private final int[] heads = new int[1024];
        private final Value scratch = new Value();
        private byte[] kept = new byte[1024];       // the bytes of terms with numbers
        private byte[] loose = new byte[4096];      // the bytes of the others
        private int keptBytes;
        private int looseBytes;
        private int free = MAX_TERMS + 1;           // the next id of a term without a number
        int numbered;

        boolean isNumber(int id) {
            return id >= 1 && id <= numbered;
        }

        private boolean isKnown(int id) {
            return id >= 1 && id <= numbered || id > MAX_TERMS && id < free && id < MAX_IDS;
        }

        /** A term's kind; 0 for no term. */
        int kindOf(int id) {
            boolean known = id >= 1 && id <= numbered || id > MAX_TERMS && id < free && id < MAX_IDS;
            return known ? kinds[id] : 0;
        }

        /** Whether these may be a triple's subject and predicate. */
        boolean mayStand(int subject, int predicate) {
            int kind = kindOf(subject);
            return (kind == BLANK || kind == NAME) && kindOf(predicate) == NAME;
        }

        long numberIn(int id) {
            return isKnown(id) ? numbers[id] : 0;
        }

        private byte[] bytesOf(int id) {
            return id <= MAX_TERMS ? kept : loose;
        }

        /** The id of a term; it gets one when it has none. 0 when there are no more ids. */
        int intern(Value v) {
            if (v.id != 0) {
                return v.id;
            }
            int hash = hash(v);
            int id = heads[hash];
            for (int i = 0; i < MAX_IDS && id != 0; i++) {
                if (isContent(id, v)) {
                    v.id = id;
                    return id;
                }
                id = nextOf(id);
            }
            if (free >= MAX_IDS) {
                return 0;
            }
            loose = ensure(loose, looseBytes + v.length + v.extraLength);
            store(free, v, loose, looseBytes);
            looseBytes += v.length + v.extraLength;
            link(free, hash);
            v.id = free;
            free++;
            return v.id;
        }

        private int nextOf(int id) {
            return id >= 0 && id < MAX_IDS ? nexts[id] : 0;
        }

        private byte[] ensure(byte[] bytes, int room) {
            return room <= bytes.length ? bytes : Arrays.copyOf(bytes, Math.max(room, 2 * bytes.length));
        }

        private void store(int id, Value v, byte[] bytes, int at) {
            if (id < 0 || id >= MAX_IDS || at < 0 || at + v.length + v.extraLength > bytes.length) {
                return;
            }
            kinds[id] = (byte) v.kind;
            scales[id] = (byte) v.scale;
            lengths[id] = (byte) v.length;
            extras[id] = (byte) v.extraLength;
            numbers[id] = v.number;
            starts[id] = at;
            marks[id] = 0;
            System.arraycopy(v.text, 0, bytes, at, v.length);
            System.arraycopy(v.extra, 0, bytes, at + v.length, v.extraLength);
        }

        private void link(int id, int hash) {
            hashes[id] = hash;
            nexts[id] = heads[hash];
            heads[hash] = id;
        }

        private int hash(Value v) {
            int hash = v.kind * 31 + v.scale + (int) (v.number ^ v.number >>> 32);
            for (int i = 0; i < v.length && i < v.text.length; i++) {
                hash = hash * 31 + v.text[i];
            }
            for (int i = 0; i < v.extraLength && i < v.extra.length; i++) {
                hash = hash * 31 + v.extra[i];
            }
            return (hash ^ hash >>> 10 ^ hash >>> 20) & 1023;
        }

        private boolean isContent(int id, Value v) {
            if (!isKnown(id) || kinds[id] != v.kind || numbers[id] != v.number || scales[id] != v.scale) {
                return false;
            }
            byte[] bytes = bytesOf(id);
            return compareBytes(bytes, starts[id], lengths[id], v.text, 0, v.length) == 0
                && compareBytes(bytes, starts[id] + lengths[id], extras[id], v.extra, 0, v.extraLength) == 0;
        }

        /** Gives a value what a term is made of; it is an ERROR for no term. */
        void load(int id, Value v) {
            v.become(0);
            if (!isKnown(id)) {
                return;
            }
            byte[] bytes = bytesOf(id);
            int at = starts[id];
            if (at < 0 || at + lengths[id] + extras[id] > bytes.length) {
                return;
            }
            v.kind = kinds[id];
            v.id = id;
            v.number = numbers[id];
            v.scale = scales[id];
            v.length = lengths[id];
            v.extraLength = extras[id];
            System.arraycopy(bytes, at, v.text, 0, v.length);
            System.arraycopy(bytes, at + v.length, v.extra, 0, v.extraLength);
        }

        /** The terms without numbers go; number() still finds what they are made of. */
        void dropLoose() {
            for (int id = free - 1; id > MAX_TERMS; id--) {
                if (id < MAX_IDS) {
                    heads[hashes[id]] = nexts[id];
                }
            }
            free = MAX_TERMS + 1;
            looseBytes = 0;
        }

        /** Gives the next number to a term that dropLoose() let go. */
        void number(int id) {
            if (id <= MAX_TERMS || id >= MAX_IDS || numbered >= MAX_TERMS) {
                return;
            }
            int size = lengths[id] + extras[id];
            kept = ensure(kept, keptBytes + size);
            numbered++;
            int to = numbered;
            kinds[to] = kinds[id];
            scales[to] = scales[id];
            lengths[to] = lengths[id];
            extras[to] = extras[id];
            numbers[to] = numbers[id];
            starts[to] = keptBytes;
            if (starts[id] >= 0 && starts[id] + size <= loose.length && keptBytes + size <= kept.length) {
                System.arraycopy(loose, starts[id], kept, keptBytes, size);
            }
            keptBytes += size;
            link(to, hashes[id]);
            marks[id] = to;
        }

        /** The numbers behind some go again, in the order in which hash rows are undone. */
        void forget(int remaining) {
            dropLoose();
            for (int id = numbered; id > remaining && id > 0 && id < MAX_IDS; id--) {
                heads[hashes[id]] = nexts[id];
                keptBytes -= lengths[id] + extras[id];
                numbered--;
            }
        }

        void unmark() {
            for (int id = MAX_TERMS + 1; id < free && id < MAX_IDS; id++) {
                marks[id] = 0;
            }
        }

        /** Marks a term without a number: whether it had no mark. */
        boolean mark(int id) {
            if (id <= MAX_TERMS || id >= MAX_IDS || marks[id] != 0) {
                return false;
            }
            marks[id] = 1;
            return true;
        }

        int numberOf(int id) {
            return id > MAX_TERMS && id < MAX_IDS ? marks[id] : id;
        }

        /** THE ORDER; nothing (0) comes first. */
        int compare(int a, int b) {
            if (a == b) {
                return 0;
            }
            int kindA = kindOf(a);
            int kindB = kindOf(b);
            if (kindA == 0 || kindB == 0) {
                return Integer.compare(kindA, kindB);
            }
            boolean isNumber = kindA == WHOLE || kindA == DECIMAL;
            if (isNumber && (kindB == WHOLE || kindB == DECIMAL)) {
                int byValue = compareNumbers(a, b);
                return byValue != 0 ? byValue : Integer.compare(kindA, kindB);
            }
            int by = Integer.compare(kindA, kindB);
            if (by == 0) {
                by = Long.compare(numbers[a], numbers[b]);
            }
            if (by == 0) {
                by = compareBytes(bytesOf(a), starts[a], lengths[a], bytesOf(b), starts[b], lengths[b]);
            }
            return by != 0 ? by : compareBytes(bytesOf(a), starts[a] + lengths[a], extras[a],
                bytesOf(b), starts[b] + lengths[b], extras[b]);
        }

        private int compareNumbers(int a, int b) {
            int scaleA = Math.max(0, Math.min(scales[a], MAX_SCALE));
            int scaleB = Math.max(0, Math.min(scales[b], MAX_SCALE));
            long wholeA = Math.floorDiv(numbers[a], TEN[scaleA]);
            long wholeB = Math.floorDiv(numbers[b], TEN[scaleB]);
            if (wholeA != wholeB) {
                return Long.compare(wholeA, wholeB);
            }
            return Long.compare(Math.floorMod(numbers[a], TEN[scaleA]) * TEN[MAX_SCALE - scaleA],
                Math.floorMod(numbers[b], TEN[scaleB]) * TEN[MAX_SCALE - scaleB]);
        }

        /** Writes a term: how many bytes. */
        int write(int id, byte[] out) {
            load(id, scratch);
            Value v = scratch;
            switch (v.kind) {
                case 0:
                    return 0;
                case BLANK:
                    putByte(out, 0, '_');
                    putByte(out, 1, ':');
                    return put(v.text, v.length, out, 2);
                case NAME:
                    return writeName(v.text, v.length, out, 0);
                case WHOLE:
                case DECIMAL:
                    return writeNumber(v.number, v.scale, v.kind == DECIMAL, out);
                case TRUTH:
                    v.string(v);
                    return put(v.text, v.length, out, 0);
                default:
                    return writeText(v, out);
            }
        }

        private int put(byte[] bytes, int size, byte[] out, int at) {
            for (int i = 0; i < size && i < bytes.length; i++) {
                putByte(out, at + i, bytes[i]);
            }
            return at + size;
        }

        private int writeName(byte[] bytes, int size, byte[] out, int at) {
            putByte(out, at, '<');
            int end = put(bytes, size, out, at + 1);
            putByte(out, end, '>');
            return end + 1;
        }

        private int writeText(Value v, byte[] out) {
            int at = 0;
            putByte(out, at, '"');
            at++;
            for (int i = 0; i < v.length && i < v.text.length; i++) {
                int b = v.text[i];
                int sign = b == 10 ? 'n' : b == 13 ? 'r' : b == 9 ? 't' : b;
                if (sign != b || b == '"' || b == '\\') {
                    putByte(out, at, '\\');
                    at++;
                }
                putByte(out, at, sign);
                at++;
            }
            putByte(out, at, '"');
            at++;
            if (v.kind == TAGGED) {
                putByte(out, at, '@');
                return put(v.extra, v.extraLength, out, at + 1);
            }
            if (v.kind == TYPED) {
                putByte(out, at, '^');
                putByte(out, at + 1, '^');
                return writeName(v.extra, v.extraLength, out, at + 2);
            }
            return at;
        }
    }

    /** The triples that hold, each packed in a key of three numbers, with the six orderings of them. */
    private static final class Triples {
        private static final int SLOTS = 4096;

        private final int[] keys = new int[MAX_TRIPLES];
        private final byte[] marks = new byte[MAX_TRIPLES];     // 1: said
        private final int[] slots = new int[SLOTS];             // where keys are, from 1, by hash
        private final int[] heads = new int[3 * (DIGIT + 1)];   // by place and term, from 1
        private final int[] lengths = new int[3 * (DIGIT + 1)];
        private final int[] nexts = new int[3 * MAX_TRIPLES];
        private final int[][] sorted = new int[6][MAX_TRIPLES];
        private final int[][] starts = new int[6][DIGIT + 2];   // where keys that begin with a number do
        private final int[] spare = new int[MAX_TRIPLES];
        private final int[] counters = new int[DIGIT + 2];
        private final int[] saved = new int[MAX_TRIPLES];
        private int savedSize;
        private boolean arranged = true;
        int size;
        int sayings;
        int active;         // how many the rules have seen: those that are in the lists by term
        int from;           // what locate() found
        int to;
        int order;

        private static boolean fits(int s, int p, int o) {
            return s > 0 && s <= MAX_TERMS && p > 0 && p <= MAX_TERMS && o > 0 && o <= MAX_TERMS;
        }

        static int pack(int s, int p, int o) {
            return s << 20 | p << 10 | o;
        }

        private int slotOf(int key) {
            int slot = key * 0x9E3779B1 >>> 20;
            for (int i = 0; i < SLOTS; i++) {
                int index = slots[slot] - 1;
                if (index < 0 || index >= MAX_TRIPLES || keys[index] == key) {
                    return slot;
                }
                slot = slot + 1 & SLOTS - 1;
            }
            return slot;
        }

        /** Where a triple stands; -1 when it does not hold. */
        int seek(int s, int p, int o) {
            return fits(s, p, o) ? slots[slotOf(pack(s, p, o))] - 1 : -1;
        }

        boolean isSaid(int index) {
            return index >= 0 && index < size && index < MAX_TRIPLES && marks[index] == 1;
        }

        /** Adds a triple that does not hold yet: whether there was room. */
        boolean hold(int key, boolean isSaid) {
            if (size >= MAX_TRIPLES) {
                return false;
            }
            keys[size] = key;
            marks[size] = (byte) (isSaid ? 1 : 0);
            sayings += isSaid ? 1 : 0;
            slots[slotOf(key)] = size + 1;
            size++;
            arranged = false;
            return true;
        }

        /** 1 when the triple is newly said, 0 when it was said before, -1 without room. */
        int say(int s, int p, int o) {
            int index = seek(s, p, o);
            if (index < 0 || index >= MAX_TRIPLES) {
                return fits(s, p, o) && hold(pack(s, p, o), true) ? 1 : -1;
            }
            if (marks[index] == 1) {
                return 0;
            }
            marks[index] = 1;
            sayings++;
            return 1;
        }

        /** 1 when the triple was said, else 0. What follows from it goes with keepSaid() alone. */
        int unsay(int s, int p, int o) {
            int index = seek(s, p, o);
            if (!isSaid(index)) {
                return 0;
            }
            marks[index] = 0;
            sayings--;
            return 1;
        }

        void clear() {
            size = 0;
            sayings = 0;
            active = 0;
            arranged = false;
            Arrays.fill(slots, 0);
            Arrays.fill(heads, 0);
            Arrays.fill(lengths, 0);
        }

        /** Lets go all that is not said itself; the rules have seen nothing of the rest. */
        void keepSaid() {
            int were = size;
            clear();
            for (int i = 0; i < were && i < MAX_TRIPLES; i++) {
                if (marks[i] == 1) {
                    hold(keys[i], true);
                }
            }
        }

        /** Remembers what is said, for restore(). */
        void backUp() {
            savedSize = 0;
            for (int i = 0; i < size && i < MAX_TRIPLES; i++) {
                if (marks[i] == 1) {
                    saved[savedSize] = keys[i];
                    savedSize++;
                }
            }
        }

        void restore() {
            clear();
            for (int i = 0; i < savedSize && i < MAX_TRIPLES; i++) {
                hold(saved[i], true);
            }
        }

        int keyPart(int index, int part) {
            return index >= 0 && index < size && part >= 0 && part < 3 ? keys[index] >> SHIFTS[part] & DIGIT : 0;
        }

        /** The rules see one triple more: it comes into the lists by term. */
        int activate() {
            int index = active;
            if (index < 0 || index >= MAX_TRIPLES) {
                return -1;
            }
            for (int place = 0; place < 3; place++) {
                int list = place * (DIGIT + 1) + keyPart(index, place);
                nexts[place * MAX_TRIPLES + index] = heads[list];
                heads[list] = index + 1;
                lengths[list]++;
            }
            active++;
            return index;
        }

        /** How many active triples have a term in a place; all of them for term 0. */
        int activeWith(int place, int term) {
            if (term == 0) {
                return active;
            }
            return place >= 0 && place < 3 && term > 0 && term <= DIGIT ? lengths[place * (DIGIT + 1) + term] : 0;
        }

        /** The latest active triple with a term in a place; -1 when there is none. */
        int latest(int place, int term) {
            if (term == 0) {
                return active - 1;
            }
            return place >= 0 && place < 3 && term > 0 && term <= DIGIT ? heads[place * (DIGIT + 1) + term] - 1 : -1;
        }

        /** The one before in the same list. */
        int earlier(int place, int term, int index) {
            if (term == 0) {
                return index - 1;
            }
            return place >= 0 && place < 3 && index >= 0 && index < MAX_TRIPLES
                ? nexts[place * MAX_TRIPLES + index] - 1 : -1;
        }

        /** Makes the six orderings of what holds now. */
        void arrange() {
            for (int q = 0; q < 6 && !arranged; q++) {
                int[] row = sorted[q];
                for (int i = 0; i < size && i < MAX_TRIPLES; i++) {
                    row[i] = keyPart(i, PLACES[3 * q]) << 20 | keyPart(i, PLACES[3 * q + 1]) << 10
                        | keyPart(i, PLACES[3 * q + 2]);
                }
                sortBy(row, spare, 0);
                sortBy(spare, row, 10);
                sortBy(row, spare, 20);
                System.arraycopy(spare, 0, row, 0, Math.min(size, MAX_TRIPLES));
                starts[q][0] = 0;
                System.arraycopy(counters, 0, starts[q], 1, DIGIT + 1);
            }
            arranged = true;
        }

        /** Sorts keys by one of their numbers, those alike as they stood. */
        private void sortBy(int[] row, int[] out, int shift) {
            Arrays.fill(counters, 0);
            for (int i = 0; i < size && i < row.length; i++) {
                counters[(row[i] >> shift & DIGIT) + 1]++;
            }
            for (int i = 1; i < counters.length; i++) {
                counters[i] += counters[i - 1];
            }
            for (int i = 0; i < size && i < row.length; i++) {
                int digit = row[i] >> shift & DIGIT;
                int at = counters[digit];
                counters[digit]++;
                if (at >= 0 && at < out.length) {
                    out[at] = row[i];
                }
            }
        }

        /** A part of triple k of an ordering. */
        int part(int q, int k, int part) {
            if (q < 0 || q > 5 || k < 0 || k >= size || k >= MAX_TRIPLES || part < 0 || part > 2) {
                return 0;
            }
            return sorted[q][k] >> SHIFTS[3 * q + part] & DIGIT;
        }

        /** Where the triples of an ordering begin whose first number is so great at least. */
        int startOf(int q, int number) {
            return q >= 0 && q <= 5 && number >= 0 && number <= DIGIT ? starts[q][number] : 0;
        }

        /** Whether a term is subject or object of a triple. */
        boolean isPoint(int term) {
            if (term < 0 || term >= DIGIT) {
                return false;
            }
            return starts[0][term + 1] > starts[0][term] || starts[4][term + 1] > starts[4][term];
        }

        /** The first place of a row between two where a key is so great at least. */
        private int lowest(int[] row, int key, int least, int most) {
            int low = least;
            int high = most;
            for (int i = 0; i < 32 && low < high; i++) {
                int middle = (low + high) / 2;
                if (middle < 0 || middle >= row.length || row[middle] >= key) {
                    high = middle;
                } else {
                    low = middle + 1;
                }
            }
            return low;
        }

        /** Finds from where to where the triples of an ordering begin with n numbers. */
        void locate(int q, int n, int a, int b, int c) {
            order = Math.max(0, Math.min(5, q));
            int first = Math.max(0, Math.min(a, DIGIT));
            from = n == 0 ? 0 : starts[order][first];
            to = n == 0 ? size : starts[order][first + 1];
            if (n > 1) {
                int key = pack(a, b, c);
                int end = to;
                from = lowest(sorted[order], key, from, end);
                to = lowest(sorted[order], key + (n == 2 ? 1 << 10 : 1), from, end);
            }
        }

        /** Finds the triples with those of three terms that are not 0; none for terms without numbers. */
        void locateWith(int s, int p, int o) {
            if (s > MAX_TERMS || p > MAX_TERMS || o > MAX_TERMS) {
                from = 0;
                to = 0;
            } else if (s != 0 && p != 0) {
                locate(0, o == 0 ? 2 : 3, s, p, o);
            } else if (s != 0) {
                locate(1, o == 0 ? 1 : 2, s, o, 0);
            } else if (p != 0) {
                locate(3, o == 0 ? 1 : 2, p, o, 0);
            } else {
                locate(4, o == 0 ? 0 : 1, o, 0, 0);
            }
        }
    }

    /** The rules, and how what they make follows from what is said. */
    private static final class Rules {
        private static final int PARTS = 3 * (MAX_BODY + MAX_HEAD);

        private final Terms terms;
        private final Triples triples;
        private final int[] parts = new int[MAX_RULES * PARTS];    // terms, or -1 - variable
        private final int[] bodies = new int[MAX_RULES];
        private final int[] heads = new int[MAX_RULES];
        private final int[] chosen = new int[MAX_VARIABLES];
        private int newest;     // the triple that was activated latest
        private int first;      // the first pattern of a body that it stands for
        private boolean failed;
        int size;
        int choices;

        Rules(Terms terms, Triples triples) {
            this.terms = terms;
            this.triples = triples;
        }

        /** A rule more, from rows of which the first ones are the body. */
        void append(Rows rows, int body) {
            int patterns = rows.top;
            if (size >= MAX_RULES || body < 1 || body > MAX_BODY || patterns > body + MAX_HEAD) {
                return;
            }
            for (int k = 0; k < patterns; k++) {
                for (int i = 0; i < 3; i++) {
                    int head = k < body ? k : MAX_BODY + k - body;
                    parts[size * PARTS + 3 * head + i] = rows.get(k, i);
                }
            }
            bodies[size] = body;
            heads[size] = patterns - body;
            size++;
        }

        void drop(int number) {
            if (number < 0 || number >= size) {
                return;
            }
            for (int r = number; r + 1 < size && r + 1 < MAX_RULES; r++) {
                System.arraycopy(parts, (r + 1) * PARTS, parts, r * PARTS, PARTS);
                bodies[r] = bodies[r + 1];
                heads[r] = heads[r + 1];
            }
            size--;
        }

        /** Lets all follow that follows from triples not seen yet: whether there is room for it. */
        boolean follow() {
            failed = false;
            if (triples.active == 0) {
                choices = 0;
            }
            for (int i = 0; i <= MAX_TRIPLES && triples.active < triples.size && !failed; i++) {
                newest = triples.activate();
                for (int r = 0; r < size && !failed; r++) {
                    for (int k = 0; k < bodies[r] && !failed; k++) {
                        first = k;
                        int bound = bind(r, k, newest);
                        if (bound >= 0) {
                            extend(r, 1 << k);
                            release(bound);
                        }
                    }
                }
            }
            return !failed;
        }

        /** The term that stands in a pattern's place by now; 0 when there is none yet. */
        private int termAt(int rule, int pattern, int place) {
            int at = rule * PARTS + 3 * pattern + place;
            int part = at >= 0 && at < parts.length ? parts[at] : 0;
            int variable = -1 - part;
            return part >= 0 || variable >= MAX_VARIABLES ? part : chosen[variable];
        }

        /** The variable that stands in a pattern's place; below 0 for a term. */
        private int variableAt(int rule, int pattern, int place) {
            int at = rule * PARTS + 3 * pattern + place;
            return at >= 0 && at < parts.length ? -1 - parts[at] : -1;
        }

        /** Takes a triple for a pattern: the variables that got their term by that; -1 if it does not fit. */
        private int bind(int rule, int pattern, int index) {
            int bound = 0;
            for (int place = 0; place < 3; place++) {
                int is = triples.keyPart(index, place);
                int due = termAt(rule, pattern, place);
                int variable = variableAt(rule, pattern, place);
                if (due == 0 && variable >= 0 && variable < MAX_VARIABLES) {
                    chosen[variable] = is;
                    bound |= 1 << variable;
                } else if (due != is) {
                    release(bound);
                    return -1;
                }
            }
            return bound;
        }

        private void release(int bound) {
            for (int v = 0; v < MAX_VARIABLES; v++) {
                if ((bound >> v & 1) != 0) {
                    chosen[v] = 0;
                }
            }
        }

        /**
         * Goes on from patterns that have their triples. So that each choice is met once, when its
         * newest triple comes, those before the first pattern with this one take older triples only;
         * they are taken first, in any order, since choices are counted from the first pattern on.
         */
        private void extend(int rule, int done) {
            int before = (1 << first) - 1;
            int pattern = Integer.bitCount(done);
            if ((done & before) == before) {
                choices++;
                failed = choices > MAX_CHOICES;
                if (failed || rule < 0 || rule >= MAX_RULES || pattern >= bodies[rule]) {
                    conclude(rule);
                    return;
                }
            } else {
                pattern = easiest(rule, before & ~done);
            }
            int place = narrowest(rule, pattern);
            int term = termAt(rule, pattern, place);
            int index = triples.latest(place, term);
            for (int i = 0; i <= MAX_TRIPLES && index >= 0 && !failed; i++) {
                if (pattern > first || index != newest) {
                    int bound = bind(rule, pattern, index);
                    if (bound >= 0) {
                        extend(rule, done | 1 << pattern);
                        release(bound);
                    }
                }
                index = triples.earlier(place, term, index);
            }
        }

        /** Of some patterns the one with the fewest triples to look at. */
        private int easiest(int rule, int patterns) {
            int best = 0;
            int least = PLENTY;
            for (int k = 0; k < MAX_BODY; k++) {
                if ((patterns >> k & 1) != 0) {
                    int place = narrowest(rule, k);
                    int many = triples.activeWith(place, termAt(rule, k, place));
                    if (many < least) {
                        least = many;
                        best = k;
                    }
                }
            }
            return best;
        }

        private int narrowest(int rule, int pattern) {
            int best = 0;
            int least = PLENTY;
            for (int place = 0; place < 3; place++) {
                int many = triples.activeWith(place, termAt(rule, pattern, place));
                if (many < least) {
                    least = many;
                    best = place;
                }
            }
            return best;
        }

        /** The head's triples hold, as far as they are triples. */
        private void conclude(int rule) {
            if (failed || rule < 0 || rule >= MAX_RULES) {
                return;
            }
            for (int k = MAX_BODY; k < MAX_BODY + heads[rule]; k++) {
                int s = termAt(rule, k, 0);
                int p = termAt(rule, k, 1);
                int o = termAt(rule, k, 2);
                boolean isNew = terms.mayStand(s, p) && triples.seek(s, p, o) < 0;
                if (isNew && !triples.hold(Triples.pack(s, p, o), false)) {
                    failed = true;
                    return;
                }
            }
        }
    }

    /** The text's tokens, and the one at hand; once there is a fault there are none any more. */
    private static final class Tokens {
        private final byte[] text;
        private final Terms terms;
        private final byte[] kinds = new byte[MAX_TEXT + 2];
        private final int[] codes = new int[MAX_TEXT + 2];      // a term's id, a variable, a word, a sign
        private final int[] places = new int[MAX_TEXT + 2];
        private final byte[] names = new byte[MAX_VARIABLES * MAX_VARIABLE_NAME];
        private final int[] nameLengths = new int[MAX_VARIABLES];
        private final Value value = new Value();
        private final Value typed = new Value();
        private int size;
        private int length;     // of the text
        private int at;         // how far it is read
        private int named;      // how many variables it has, up to one too many
        private int typeName;   // the name that the word a stands for
        private int hand;       // which token is at hand: its kind, code and place
        private int kind;
        private int code;
        int here;
        int variables;          // how many were taken
        int fault;
        int faultPlace;

        Tokens(byte[] text, Terms terms) {
            this.text = text;
            this.terms = terms;
        }

        /** Reads all tokens, up to the first bytes that are none; the first one is at hand then. */
        void read(int textLength) {
            length = Math.max(0, Math.min(textLength, text.length));
            size = 0;
            at = 0;
            named = 0;
            hand = -1;
            variables = 0;
            fault = 0;
            faultPlace = 0;
            boolean more = true;
            for (int i = 0; i <= MAX_TEXT && more; i++) {
                skipBlanks();
                more = readOne();
            }
            take();
        }

        private int byteAt(int i) {
            return i >= 0 && i < length && i < text.length ? text[i] : 0;
        }

        private void skipBlanks() {
            boolean inRemark = false;
            for (; at < length; at++) {
                int b = byteAt(at);
                inRemark = b == '#' || inRemark && b != 10;
                if (!inRemark && b != 32 && b != 9 && b != 10 && b != 13) {
                    return;
                }
            }
        }

        /** Reads a token: whether there may be another one. */
        private boolean readOne() {
            int start = at;
            int b = byteAt(start);
            if (start >= length) {
                note(AT_END, 0, start, start);
                return false;
            }
            if (isLetter(b)) {
                readWord(start);
                return true;
            }
            int end = start;
            switch (b) {
                case '?':
                    return readVariable(start);
                case '_':
                    end = byteAt(start + 1) == ':' ? readShort(BLANK, start + 2, start) : start;
                    break;
                case ':':
                    end = readShort(NAME, start + 1, start);
                    break;
                case '<':
                    end = readName(start);
                    break;
                case '"':
                    end = readText(start);
                    break;
                default:
                    boolean mayBegin = isDigit(b) || b == '.' || (b == '+' || b == '-') && !isBehindValue();
                    end = mayBegin ? numberIn(text, start, length, value) : start;
            }
            if (end > start) {
                noteTerm(start, end);
                return true;
            }
            return readSign(start, b);
        }

        private boolean readSign(int start, int b) {
            int sign = signOf(b, byteAt(start + 1));
            note(sign == 0 ? AT_NOTHING : AT_SIGN, sign, start, start + (sign > TWO ? 2 : 1));
            return sign != 0;
        }

        /** Reads a variable, or the sign ? alone. Variables get their numbers as they come. */
        private boolean readVariable(int start) {
            int from = start + 1;
            int bytes = wordEnd(from, MAX_VARIABLE_NAME) - from;
            if (bytes == 0) {
                return readSign(start, '?');
            }
            int variable = named;
            for (int v = 0; v < named && v < MAX_VARIABLES && variable == named; v++) {
                boolean same = nameLengths[v] == bytes;
                for (int i = 0; i < bytes && i < MAX_VARIABLE_NAME && same; i++) {
                    same = names[v * MAX_VARIABLE_NAME + i] == byteAt(from + i);
                }
                variable = same ? v : variable;
            }
            if (variable == named && named < MAX_VARIABLES) {
                nameLengths[named] = bytes;
                for (int i = 0; i < bytes && i < MAX_VARIABLE_NAME; i++) {
                    names[named * MAX_VARIABLE_NAME + i] = (byte) byteAt(from + i);
                }
                named++;
            }
            note(AT_VARIABLE, variable, start, from + bytes);
            return true;
        }

        private void note(int kind, int code, int start, int end) {
            if (size < kinds.length) {
                kinds[size] = (byte) kind;
                codes[size] = code;
                places[size] = start;
                size++;
            }
            at = end;
        }

        private void noteTerm(int start, int end) {
            int id = terms.intern(value);
            note(id == 0 ? AT_NOTHING : AT_TERM, id, start, end);
        }

        private void readWord(int start) {
            int end = start;
            while (end < length && isLetter(byteAt(end))) {
                end++;
            }
            if (truthIn(text, start, end, value)) {
                noteTerm(start, end);
            } else {
                int word = wordIn(KEYWORDS, start, end, 1);
                word = word != 0 ? word : wordIn(FUNCTIONS, start, end, IF);
                if (word == WORD_A) {
                    value.spell(NAME, "type");
                    typeName = terms.intern(value);
                }
                note(AT_WORD, word, start, end);
            }
        }

        /** Which of some words the bytes are, counted from a number on; 0 for none. */
        private int wordIn(String words, int start, int end, int number) {
            int word = number;
            int i = start;
            boolean same = true;
            for (int k = 0; k < words.length(); k++) {
                if (words.charAt(k) == ' ') {
                    if (same && i == end) {
                        return word;
                    }
                    word++;
                    i = start;
                    same = true;
                } else {
                    same = same && i < end && byteAt(i) == words.charAt(k);
                    i++;
                }
            }
            return 0;
        }

        /** Behind the word bytes from a place on, but no more than there may be. */
        private int wordEnd(int from, int most) {
            int end = from;
            for (int i = 0; i < most && isWordByte(byteAt(end)); i++) {
                end++;
            }
            return end;
        }

        /** Whether a - or + before a number is a sign of its own: what is before it is worth something. */
        private boolean isBehindValue() {
            int last = size - 1;
            if (last < 0 || last >= kinds.length) {
                return false;
            }
            return kinds[last] == AT_TERM || kinds[last] == AT_VARIABLE || kinds[last] == AT_SIGN && codes[last] == ')';
        }

        private int readShort(int kind, int from, int start) {
            int end = wordEnd(from, MAX_NAME);
            if (end == from) {
                return start;
            }
            value.become(kind);
            for (int i = from; i < end; i++) {
                value.append(byteAt(i));
            }
            return end;
        }

        /** Where a name in < > ends; start where there is none. */
        private int nameEnd(int start) {
            int end = start + 1;
            for (int i = 0; i < MAX_NAME && isNameByte(byteAt(end)); i++) {
                end++;
            }
            return byteAt(start) == '<' && end > start + 1 && byteAt(end) == '>' ? end + 1 : start;
        }

        private int readName(int start) {
            int end = nameEnd(start);
            if (end > start) {
                value.become(NAME);
                for (int i = start + 1; i < end - 1; i++) {
                    value.append(byteAt(i));
                }
            }
            return end;
        }

        private int readText(int start) {
            value.become(TEXT);
            int i = start + 1;
            for (; i < length && byteAt(i) != '"'; i++) {
                int b = byteAt(i);
                if (b == '\\') {
                    i++;
                    b = escaped(byteAt(i));
                } else if (b < 32 || b > 126) {
                    b = 0;
                }
                if (b == 0 || value.length == MAX_BYTES) {
                    return start;
                }
                value.append(b);
            }
            if (i >= length) {
                return start;
            }
            if (byteAt(i + 1) == '@') {
                return readTag(i + 1);
            }
            return byteAt(i + 1) == '^' && byteAt(i + 2) == '^' ? readType(i + 1) : i + 1;
        }

        private static int escaped(int b) {
            switch (b) {
                case '"':
                case '\\':
                    return b;
                case 'n':
                    return 10;
                case 'r':
                    return 13;
                case 't':
                    return 9;
                default:
                    return 0;
            }
        }

        /** Reads the tag behind a text that ends at a place: where it ends then. */
        private int readTag(int end) {
            int i = end + 1;
            for (int k = 0; k < MAX_TAG && isLetter(byteAt(i)); k++) {
                int b = byteAt(i);
                value.appendExtra(isCapital(b) ? b + 32 : b);
                i++;
            }
            if (i == end + 1) {
                return end;
            }
            value.kind = TAGGED;
            return i;
        }

        /** Reads the type behind a text that ends at a place: where it ends then. */
        private int readType(int end) {
            int from = end + 2;
            int to = nameEnd(from);
            if (to == from) {
                return end;
            }
            if (isBetween(from, to, "text")) {
                return to;
            }
            boolean whole = isBetween(from, to, "whole");
            if (whole || isBetween(from, to, "decimal")) {
                int read = numberIn(value.text, 0, value.length, typed);
                boolean due = read > 0 && read == value.length && typed.kind == (whole ? WHOLE : DECIMAL);
                return due ? takeTyped(to) : end;
            }
            if (isBetween(from, to, "truth")) {
                return truthIn(value.text, 0, value.length, typed) ? takeTyped(to) : end;
            }
            value.kind = TYPED;
            for (int i = from + 1; i < to - 1; i++) {
                value.appendExtra(byteAt(i));
            }
            return to;
        }

        private int takeTyped(int end) {
            value.copy(typed);
            return end;
        }

        private boolean isBetween(int from, int to, String name) {
            if (to - from != name.length() + 2) {
                return false;
            }
            for (int i = 0; i < name.length(); i++) {
                if (byteAt(from + 1 + i) != name.charAt(i)) {
                    return false;
                }
            }
            return true;
        }

        private static boolean truthIn(byte[] bytes, int from, int to, Value out) {
            boolean isTrue = to - from == 4;
            String word = isTrue ? "true" : "false";
            if (to - from != word.length() || from < 0 || to > bytes.length) {
                return false;
            }
            for (int i = 0; i < word.length(); i++) {
                if (bytes[from + i] != word.charAt(i)) {
                    return false;
                }
            }
            out.truth(isTrue ? 1 : 0);
            return true;
        }

        /** The digit at a place; -1 where there is none. */
        private static int digitIn(byte[] bytes, int i, int to) {
            int digit = i >= 0 && i < to && i < bytes.length ? bytes[i] - '0' : -1;
            return digit <= 9 ? Math.max(-1, digit) : -1;
        }

        private static boolean isIn(byte[] bytes, int i, int to, int b) {
            return i >= 0 && i < to && i < bytes.length && bytes[i] == b;
        }

        /** Reads the longest number, a + or - before it too: its end, or from where there is none. */
        private static int numberIn(byte[] bytes, int from, int to, Value out) {
            boolean minus = isIn(bytes, from, to, '-');
            int begin = minus || isIn(bytes, from, to, '+') ? from + 1 : from;
            int i = begin;
            while (i < to && isIn(bytes, i, to, '0')) {
                i++;
            }
            long number = 0;
            for (int k = 0; k < MAX_DIGITS && digitIn(bytes, i, to) >= 0; k++) {
                number = number * 10 + digitIn(bytes, i, to);
                i++;
            }
            out.numeric(WHOLE, number, 0);
            int end = isIn(bytes, i, to, '.') ? fractionIn(bytes, i, to, out) : i;
            if (end == begin) {
                return from;
            }
            out.number = minus ? -out.number : out.number;
            return end;
        }

        /** Reads the dot and the digits behind it, as long as the decimal has room: its end, or dot. */
        private static int fractionIn(byte[] bytes, int dot, int to, Value out) {
            int end = dot;
            for (int i = dot + 1; i < to && digitIn(bytes, i, to) >= 0; i++) {
                int digit = digitIn(bytes, i, to);
                int place = i - dot;
                if (digit != 0) {
                    int shift = place - out.scale;
                    if (place > MAX_SCALE || shift < 0 || out.number > (LARGEST - digit) / TEN[shift]) {
                        return end;
                    }
                    out.number = out.number * TEN[shift] + digit;
                    out.scale = place;
                }
                out.kind = DECIMAL;
                end = i + 1;
            }
            return end;
        }

        private static int signOf(int b, int then) {
            switch (b) {
                case '!':
                case '>':
                    return then == '=' ? TWO + b : b;
                case '<':
                    return then == '=' ? TWO + b : b;
                case '=':
                    return then == '>' ? TWO + b : b;
                case '|':
                    return then == '|' ? TWO + b : b;
                case '&':
                    return then == '&' ? TWO + b : 0;
                case '{':
                case '}':
                case '(':
                case ')':
                case '.':
                case ',':
                case ';':
                case '*':
                case '/':
                case '+':
                case '-':
                case '^':
                case '?':
                    return b;
                default:
                    return 0;
            }
        }

        // What follows is asked of the token at hand.

        boolean isEnd() {
            return kind == AT_END;
        }

        boolean isTerm() {
            return kind == AT_TERM;
        }

        boolean isVariable() {
            return kind == AT_VARIABLE;
        }

        boolean isNode() {
            return kind == AT_TERM || kind == AT_VARIABLE;
        }

        boolean isSign(int sign) {
            return kind == AT_SIGN && code == sign;
        }

        int sign() {
            return kind == AT_SIGN ? code : 0;
        }

        boolean isWord(int word) {
            return kind == AT_WORD && code == word;
        }

        int word() {
            return kind == AT_WORD ? code : 0;
        }

        int id() {
            return kind == AT_TERM ? code : 0;
        }

        int termKind() {
            return kind == AT_TERM ? terms.kindOf(code) : 0;
        }

        /** The id of a NAME, or of what the word a stands for; 0 for other tokens. */
        int nameId() {
            if (kind == AT_TERM && terms.kindOf(code) == NAME) {
                return code;
            }
            return kind == AT_WORD && code == WORD_A ? typeName : 0;
        }

        /** Takes the token: the next one is at hand. */
        void take() {
            if (fault != 0 || hand + 1 >= size || hand + 1 >= kinds.length) {
                return;
            }
            hand++;
            kind = kinds[hand];
            code = codes[hand];
            here = places[hand];
            if (kind == AT_NOTHING) {
                fault = NO_TOKEN;
                faultPlace = here;
            }
        }

        /** Takes it if it is what is wanted; else that is a fault. */
        void expectSign(int sign) {
            if (kind == AT_SIGN && code == sign) {
                take();
            } else {
                fail(OUT_OF_PLACE);
            }
        }

        void expectWord(int word) {
            if (kind == AT_WORD && code == word) {
                take();
            } else {
                fail(OUT_OF_PLACE);
            }
        }

        void fail(int newFault) {
            failAt(newFault, here);
        }

        /** The first fault is the one that counts; nothing is at hand any more. */
        void failAt(int newFault, int place) {
            if (fault == 0) {
                fault = newFault;
                faultPlace = place;
                kind = AT_NOTHING;
            }
        }

        boolean isNewVariable() {
            return kind == AT_VARIABLE && code >= variables;
        }

        /** The variable at hand; a fault when it is one more than there may be. */
        int variable() {
            if (kind != AT_VARIABLE || code >= MAX_VARIABLES) {
                failAt(kind == AT_VARIABLE ? NO_SPACE : OUT_OF_PLACE, here);
                return 0;
            }
            variables = Math.max(variables, code + 1);
            return code;
        }

        /** Writes a variable's name: how many bytes. */
        int writeVariable(int v, byte[] out) {
            if (v < 0 || v >= variables || v >= MAX_VARIABLES) {
                return 0;
            }
            for (int i = 0; i < nameLengths[v] && i < MAX_VARIABLE_NAME; i++) {
                putByte(out, i, names[v * MAX_VARIABLE_NAME + i]);
            }
            return nameLengths[v];
        }
    }

    /** Reads a statement: its tokens one after the other, and what may not be as soon as it is met. */
    private static final class Parser {
        private static final int VALUES_KEPT = MAX_NODES + MAX_GROUPS * MAX_KEYS;

        private final Terms terms;
        private final Value[] values = new Value[VALUES_KEPT];
        private int valuesUsed;
        private int nodes;
        private int groups;
        private int lines;
        private int patterns;
        private int given;
        private int steps;          // of the path at hand
        private Node lastBlock;
        // Of the expression at hand:
        private Node base;          // whose expression it is
        private Node holder;        // the same, or the aggregate that is open
        private Node open;          // what waits for an operand or its end, the innermost first
        private Node operand;       // the latest whole operand; null where one is wanted
        private Node select;        // the SELECT that may have aggregates here; null for none
        private int depth;          // how many groups are open
        private int brackets;
        private int signs;
        private boolean tested;     // the operand is a whole IN
        final Tokens tokens;
        Node firstBlock;
        boolean keyed;              // there is an ORDER BY

        Parser(Tokens tokens, Terms terms) {
            this.tokens = tokens;
            this.terms = terms;
        }

        /** Reads a statement; where it has a fault, the tokens have it. */
        Node statement() {
            valuesUsed = 0;
            nodes = 0;
            groups = 0;
            lines = 0;
            patterns = 0;
            given = 0;
            lastBlock = null;
            firstBlock = null;
            keyed = false;
            Node s = new Node(tokens.word(), tokens.here);
            if (s.kind == SELECT) {
                select(s, 0);
            } else if (s.kind == UNRULE) {
                tokens.take();
                s.count = whole();
            } else if (s.kind == ASK || s.kind >= CONSTRUCT && s.kind <= CLEAR && s.kind != DATA) {
                tokens.take();
                boolean hasGroup = s.kind == ASK || parts(s);
                if (hasGroup && s.kind != ASK) {
                    tokens.expectWord(WHERE);
                }
                s.inner = hasGroup ? group(1) : null;
            } else {
                tokens.fail(OUT_OF_PLACE);
            }
            if (!tokens.isEnd()) {
                tokens.fail(OUT_OF_PLACE);
            }
            return s;
        }

        /** Reads the facts of a statement: whether a group comes behind them. */
        private boolean parts(Node s) {
            if (s.kind == CLEAR) {
                return false;
            }
            if (s.kind == RULE) {
                facts(s, RULE, IN_BODY);
                tokens.expectSign(TWO + '=');
                facts(s, RULE, IN_HEAD);
                return false;
            }
            if (s.kind != CONSTRUCT && tokens.isWord(DATA)) {
                tokens.take();
                facts(s, s.kind, IN_DATA);
                return false;
            }
            facts(s, s.kind, IN_TEMPLATE);
            if (s.kind == DELETE && tokens.isWord(INSERT)) {
                tokens.take();
                facts(s, INSERT, IN_TEMPLATE);
            }
            return true;
        }

        /** A WHOLE that is not below 0, at most as great as anything that is counted. */
        private int whole() {
            long number = terms.numberIn(tokens.id());
            if (tokens.termKind() != WHOLE || number < 0) {
                tokens.fail(OUT_OF_PLACE);
                return 0;
            }
            tokens.take();
            return (int) Math.min(number, PLENTY);
        }

        // Facts.

        private void facts(Node s, int kind, int way) {
            Node facts = s.add(new Node(kind, tokens.here));
            tokens.expectSign('{');
            boolean more = true;
            for (int i = 0; i <= MAX_TEXT && more; i++) {
                fact(facts, way);
                more = tokens.isSign('.');
                if (more) {
                    tokens.take();
                    more = tokens.isNode();
                }
            }
            int most = way == IN_BODY ? MAX_BODY : way == IN_HEAD ? MAX_HEAD : MAX_TEXT;
            if (tokens.isSign('}') && facts.size > most) {
                tokens.fail(FORBIDDEN);
            }
            tokens.expectSign('}');
        }

        private void fact(Node facts, int way) {
            refuseVariable(way);
            int subject = node(true);
            boolean moreVerbs = true;
            for (int i = 0; i <= MAX_TEXT && moreVerbs; i++) {
                refuseVariable(way);
                int verb = tokens.isVariable() ? node(false) : name();
                boolean moreObjects = true;
                for (int k = 0; k <= MAX_TEXT && moreObjects; k++) {
                    Node fact = new Node(FACT, tokens.here);
                    refuseVariable(way);
                    fact.subject = subject;
                    fact.verb = verb;
                    fact.object = node(false);
                    facts.add(fact);
                    facts.size++;
                    moreObjects = takeIf(',');
                }
                moreVerbs = takeIf(';');
            }
        }

        private void refuseVariable(int way) {
            if (tokens.isVariable() && way == IN_DATA || tokens.isNewVariable() && way == IN_HEAD) {
                tokens.fail(FORBIDDEN);
            }
        }

        private boolean takeIf(int sign) {
            boolean there = tokens.isSign(sign);
            if (there) {
                tokens.take();
            }
            return there;
        }

        /** A TERM or VAR: its id, or -1 - variable. */
        private int node(boolean isSubject) {
            int slot = tokens.id();
            if (tokens.isVariable()) {
                slot = -1 - tokens.variable();
            } else if (!tokens.isTerm()) {
                tokens.fail(OUT_OF_PLACE);
            } else if (isSubject && tokens.termKind() > NAME) {
                tokens.fail(FORBIDDEN);
            }
            tokens.take();
            return slot;
        }

        /** A NAME, or the word a: its id. */
        private int name() {
            int id = tokens.nameId();
            if (id == 0) {
                tokens.fail(OUT_OF_PLACE);
            }
            tokens.take();
            return id;
        }

        // SELECT.

        private void select(Node s, int open) {
            tokens.take();
            if (tokens.isWord(DISTINCT)) {
                s.distinct = true;
                tokens.take();
            }
            if (tokens.isSign('*')) {
                s.star = true;
                s.at = tokens.here;
                tokens.take();
            } else {
                items(s, ITEM, open);
            }
            tokens.expectWord(WHERE);
            s.inner = group(open + 1);
            ends(s, open);
            if (tokens.fault == 0) {
                check(s);
            }
        }

        private void items(Node s, int kind, int open) {
            int many = 0;
            while (many <= MAX_ITEMS && (tokens.isVariable() || tokens.isSign('('))) {
                if (many == MAX_ITEMS) {
                    tokens.fail(NO_SPACE);
                }
                many++;
                item(s.add(new Node(kind, tokens.here)), kind == ITEM ? s : null, open);
            }
            if (many == 0) {
                tokens.fail(OUT_OF_PLACE);
            }
        }

        private void item(Node item, Node aggregates, int open) {
            if (tokens.isVariable()) {
                item.variable = tokens.variable();
                tokens.take();
                return;
            }
            tokens.expectSign('(');
            expression(item, aggregates, open);
            tokens.expectWord(AS);
            target(item);
            tokens.expectSign(')');
        }

        /** The VAR behind AS. */
        private void target(Node item) {
            item.at = tokens.here;
            item.variable = tokens.variable();
            tokens.take();
        }

        private void ends(Node s, int open) {
            if (tokens.isWord(GROUP)) {
                tokens.take();
                tokens.expectWord(BY);
                s.grouped = true;
                items(s, GROUP_ITEM, open);
            }
            if (tokens.isWord(HAVING)) {
                s.grouped = true;
                Node having = s.add(new Node(HAVING, tokens.here));
                tokens.take();
                bracketed(having, s, open);
            }
            if (tokens.isWord(ORDER)) {
                tokens.take();
                tokens.expectWord(BY);
                keys(s, open);
            }
            amount(s, LIMIT);
            amount(s, OFFSET);
        }

        private void amount(Node s, int word) {
            if (tokens.isWord(word)) {
                Node amount = s.add(new Node(word, tokens.here));
                tokens.take();
                amount.count = whole();
            }
        }

        private void bracketed(Node item, Node aggregates, int open) {
            tokens.expectSign('(');
            expression(item, aggregates, open);
            tokens.expectSign(')');
        }

        private boolean isKey() {
            return tokens.isVariable() || tokens.isSign('(') || tokens.isWord(ASC) || tokens.isWord(DESC);
        }

        private void keys(Node s, int open) {
            int many = 0;
            keyed = true;
            while (many <= MAX_KEYS && isKey()) {
                if (many == MAX_KEYS) {
                    tokens.fail(NO_SPACE);
                }
                many++;
                Node key = s.add(new Node(KEY, tokens.here));
                if (tokens.isVariable()) {
                    Node leaf = leaf(VARIABLE);
                    leaf.variable = tokens.variable();
                    key.append(leaf);
                    tokens.take();
                } else {
                    key.negated = tokens.isWord(DESC);
                    if (!tokens.isSign('(')) {
                        tokens.take();
                    }
                    bracketed(key, s, open);
                }
            }
            if (many == 0) {
                tokens.fail(OUT_OF_PLACE);
            }
        }

        /** Asks, when all of a SELECT was read, what may not stand in it, and finds its columns. */
        private void check(Node s) {
            Node by = new Node(GROUP_ITEM, 0);
            Node names = new Node(ITEM, 0);
            for (Node c = s.first; c != null; c = c.next) {
                if (c.kind == GROUP_ITEM) {
                    refuse(by.lists(c.variable) || c.start != null && s.inner.lists(c.variable), c.at);
                    by.list(c.variable);
                }
            }
            for (Node c = s.first; c != null; c = c.next) {
                if (c.kind == ITEM) {
                    boolean taken = c.start != null && (s.inner.lists(c.variable) || by.lists(c.variable));
                    refuse(names.lists(c.variable) || taken, c.at);
                    names.list(c.variable);
                }
            }
            if (s.grouped) {
                refuse(s.star, s.at);
                checkGrouped(s, by);
            }
            Node from = s.star ? s.inner : names;
            for (int i = 0; i < from.size; i++) {
                s.list(from.listed(i));
            }
        }

        private void refuse(boolean wrong, int place) {
            if (wrong) {
                tokens.failAt(FORBIDDEN, place);
            }
        }

        /** In a grouped SELECT there are, outside of aggregates, only variables that each set has. */
        private void checkGrouped(Node s, Node by) {
            Node had = new Node(ITEM, 0);
            for (Node c = s.first; c != null; c = c.next) {
                if (c.kind != GROUP_ITEM) {
                    for (Node n = c.start; n != null; n = n.follow) {
                        boolean known = by.lists(n.variable) || c.kind != HAVING && had.lists(n.variable);
                        refuse(n.kind == VARIABLE && !known, n.at);
                    }
                }
                if (c.kind == ITEM && c.start == null) {
                    refuse(!by.lists(c.variable) && !had.lists(c.variable), c.at);
                }
                if (c.kind == ITEM && c.start != null) {
                    had.list(c.variable);
                }
            }
        }

        // Groups.

        /** Reads a group; never null. */
        private Node group(int open) {
            Node g = new Node(GROUP, tokens.here);
            if (!tokens.isSign('{')) {
                tokens.fail(OUT_OF_PLACE);
            } else if (open > MAX_NESTED || groups >= MAX_GROUPS) {
                tokens.fail(NO_SPACE);
            }
            if (tokens.fault != 0) {
                return g;
            }
            groups++;
            g.count = 1;
            tokens.take();
            if (tokens.isWord(SELECT)) {
                g.inner = new Node(SELECT, tokens.here);
                select(g.inner, open);
                bringAll(g, g.inner);
            } else {
                boolean more = true;
                for (int i = 0; i <= MAX_TEXT && more; i++) {
                    more = part(g, open);
                }
            }
            tokens.expectSign('}');
            return g;
        }

        private void bringAll(Node g, Node from) {
            for (int i = 0; i < from.size; i++) {
                g.bring(from.listed(i));
            }
        }

        /** Reads a part of a group: whether there was one. */
        private boolean part(Node g, int open) {
            if (tokens.isNode()) {
                block(g);
                return true;
            }
            if (tokens.isSign('{')) {
                unions(g, open);
                return true;
            }
            int word = tokens.word();
            if (word != FILTER && word != OPTIONAL && word != MINUS && word != BIND && word != VALUES) {
                return false;
            }
            Node part = g.add(new Node(word, tokens.here));
            g.count++;
            tokens.take();
            if (word == FILTER) {
                filter(part, open);
            } else if (word == BIND) {
                binding(g, part, open);
            } else if (word == VALUES) {
                table(g, part);
            } else {
                part.inner = group(open + 1);
                if (word == OPTIONAL) {
                    bringAll(g, part.inner);
                }
            }
            return true;
        }

        private void unions(Node g, int open) {
            Node union = g.add(new Node(UNION, tokens.here));
            boolean more = true;
            for (int i = 0; i <= MAX_GROUPS && more; i++) {
                Node one = union.add(group(open + 1));
                g.count++;
                bringAll(g, one);
                more = tokens.isWord(UNION);
                if (more) {
                    tokens.take();
                }
            }
        }

        private void filter(Node part, int open) {
            if (tokens.isWord(NOT) || tokens.isWord(EXISTS)) {
                depth = open;
                part.append(exists());
            } else {
                bracketed(part, null, open);
            }
        }

        private void binding(Node g, Node part, int open) {
            tokens.expectSign('(');
            expression(part, null, open);
            tokens.expectWord(AS);
            target(part);
            refuse(g.lists(part.variable), part.at);
            tokens.expectSign(')');
            g.bring(part.variable);
        }

        private void table(Node g, Node part) {
            boolean many = takeIf('(');
            tableColumns(g, part, many);
            if (many) {
                tokens.expectSign(')');
            }
            tokens.expectSign('{');
            boolean more = true;
            for (int i = 0; i <= MAX_TEXT && more; i++) {
                more = many ? tokens.isSign('(') : isGiven();
                if (more) {
                    g.count++;
                    row(part, many);
                }
            }
            tokens.expectSign('}');
        }

        private void tableColumns(Node g, Node part, boolean many) {
            for (int i = 0; i <= MAX_COLUMNS && (i == 0 || many && tokens.isVariable()); i++) {
                if (i == MAX_COLUMNS) {
                    tokens.fail(NO_SPACE);
                }
                int place = tokens.here;
                int variable = tokens.variable();
                tokens.take();
                refuse(part.lists(variable), place);
                part.list(variable);
                g.bring(variable);
            }
        }

        private boolean isGiven() {
            return tokens.isTerm() || tokens.isWord(UNDEF);
        }

        private void row(Node part, boolean many) {
            Node row = part.add(new Node(GIVEN, tokens.here));
            if (many) {
                tokens.expectSign('(');
            }
            for (int i = 0; i < part.size; i++) {
                if (!isGiven()) {
                    tokens.fail(OUT_OF_PLACE);
                } else if (given >= MAX_GIVEN) {
                    tokens.fail(NO_SPACE);
                }
                given++;
                row.list(tokens.id());
                tokens.take();
            }
            if (many) {
                tokens.expectSign(')');
            }
        }

        // Lines.

        private void block(Node g) {
            Node b = g.add(new Node(BLOCK, tokens.here));
            if (lastBlock == null) {
                firstBlock = b;
            } else {
                lastBlock.follow = b;
            }
            lastBlock = b;
            Node line = new Node(PATTERN, 0);
            boolean more = true;
            for (int i = 0; i <= MAX_TEXT && more; i++) {
                line.subject = node(true);
                bring(g, line.subject);
                boolean moreVerbs = true;
                for (int k = 0; k <= MAX_TEXT && moreVerbs; k++) {
                    line.inner = null;
                    if (tokens.isVariable()) {
                        line.verb = node(false);
                        bring(g, line.verb);
                    } else {
                        steps = 0;
                        boolean alone = !tokens.isSign('(');
                        Node path = path(0);
                        line.verb = path.object;
                        line.inner = alone && steps == 1 ? null : path;
                    }
                    objects(g, b, line);
                    moreVerbs = takeIf(';');
                }
                more = takeIf('.') && tokens.isNode();
            }
        }

        private void bring(Node g, int slot) {
            if (slot < 0) {
                g.bring(-1 - slot);
            }
        }

        private void objects(Node g, Node b, Node like) {
            boolean more = true;
            for (int i = 0; i <= MAX_TEXT && more; i++) {
                Node line = new Node(like.inner == null ? PATTERN : PATH_LINE, tokens.here);
                boolean full = lines >= MAX_LINES || line.kind == PATTERN && b.size >= MAX_PATTERNS;
                if (tokens.isNode() && full) {
                    tokens.fail(NO_SPACE);
                }
                line.subject = like.subject;
                line.verb = like.verb;
                line.inner = like.inner;
                line.object = node(false);
                bring(g, line.object);
                lines++;
                g.count++;
                if (line.kind == PATTERN) {
                    b.size++;
                    line.count = patterns;
                    patterns++;
                }
                b.add(line);
                more = takeIf(',');
            }
        }

        // Paths.

        private Node path(int level) {
            Node choice = new Node(STEP_CHOICE, tokens.here);
            choice.add(stepRow(level));
            for (int i = 0; i <= MAX_STEPS && tokens.isSign('|'); i++) {
                step();
                choice.add(stepRow(level));
            }
            return choice.first != null && choice.first == choice.last ? choice.first : choice;
        }

        /** Takes a token that counts as one of a path's steps and signs. */
        private void step() {
            if (steps >= MAX_STEPS) {
                tokens.failAt(NO_SPACE, tokens.here);
            }
            steps++;
            tokens.take();
        }

        private Node stepRow(int level) {
            Node row = new Node(STEP_ROW, tokens.here);
            row.add(oneStep(level));
            for (int i = 0; i <= MAX_STEPS && tokens.isSign('/'); i++) {
                step();
                row.add(oneStep(level));
            }
            return row.first == row.last ? row.first : row;
        }

        private Node oneStep(int level) {
            Node back = null;
            if (tokens.isSign('^')) {
                back = new Node(STEP_BACK, tokens.here);
                step();
            }
            Node one = stepItself(level);
            int sign = tokens.sign();
            if (sign == '*' || sign == '+' || sign == '?') {
                int kind = sign == '*' ? STEP_ANY : sign == '+' ? STEP_SOME : STEP_MAYBE;
                Node repeated = new Node(kind, tokens.here);
                repeated.add(one);
                one = repeated;
                step();
            }
            if (back != null) {
                back.add(one);
                one = back;
            }
            return one;
        }

        private Node stepItself(int level) {
            if (tokens.isSign('!')) {
                Node other = new Node(STEP_OTHER, tokens.here);
                step();
                boolean many = openPath(level);
                boolean more = true;
                for (int i = 0; i <= MAX_STEPS && more; i++) {
                    boolean back = tokens.isSign('^');
                    if (back) {
                        step();
                    }
                    Node name = stepName();
                    name.negated = back;
                    other.add(name);
                    more = many && tokens.isSign('|');
                    if (more) {
                        step();
                    }
                }
                if (many) {
                    tokens.expectSign(')');
                }
                return other;
            }
            if (openPath(level)) {
                Node within = path(level + 1);
                tokens.expectSign(')');
                return within;
            }
            return stepName();
        }

        /** Takes a bracket of a path, if there is one. */
        private boolean openPath(int level) {
            boolean there = tokens.isSign('(');
            if (there && level >= MAX_PATH_BRACKETS) {
                tokens.fail(NO_SPACE);
            }
            if (there) {
                tokens.take();
            }
            return there;
        }

        private Node stepName() {
            Node name = new Node(STEP, tokens.here);
            name.object = tokens.nameId();
            if (name.object == 0) {
                tokens.fail(OUT_OF_PLACE);
            }
            step();
            return name;
        }

        // Expressions. What is open waits in a row, linked by outer, so that brackets in one another
        // take no calls in one another.

        /** Reads the expression behind a bracket that was taken just now. */
        private void expression(Node item, Node aggregates, int groupsOpen) {
            base = item;
            holder = item;
            select = aggregates;
            depth = groupsOpen;
            open = null;
            operand = null;
            brackets = 1;
            signs = 0;
            tested = false;
            boolean more = true;
            for (int i = 0; i <= MAX_TEXT && more; i++) {
                if (operand == null) {
                    beginOperand();
                } else {
                    more = goOn();
                }
                more = more && tokens.fault == 0;
            }
        }

        private void beginOperand() {
            int word = tokens.word();
            if (tokens.isNode()) {
                Node leaf = leaf(tokens.isTerm() ? CONSTANT : VARIABLE);
                countNode();
                fillLeaf(leaf);
            } else if (tokens.isSign('(')) {
                openBracket(new Node(BRACKET, tokens.here));
            } else if (tokens.isSign('!') || tokens.isSign('-')) {
                pushSign(tokens.isSign('!') ? NEGATION : OPPOSITE);
            } else if (word == NOT || word == EXISTS) {
                Node exists = exists();
                holder.append(exists);
                operand = exists;
            } else if (word == BOUND) {
                bound();
            } else if (word >= IF && word <= SUBSTR) {
                function(word);
            } else if (word >= COUNT && word <= GROUPCONCAT) {
                aggregate(word);
            } else {
                tokens.fail(OUT_OF_PLACE);
            }
        }

        /** Goes on behind an operand: whether the expression does. */
        private boolean goOn() {
            int sign = tokens.sign();
            int kind = operator(sign);
            if (kind != 0) {
                operator(kind, level(kind));
                return true;
            }
            if (tokens.isWord(NOT) || tokens.isWord(IN)) {
                among();
                return true;
            }
            reduce(1);
            if (open == null) {
                return false;
            }
            if (sign == ')') {
                closeBracket();
            } else if (sign == ',') {
                nextArgument();
            } else if (sign == ';' && open.kind == GROUPCONCAT) {
                separator();
            } else {
                tokens.fail(OUT_OF_PLACE);
            }
            return true;
        }

        private static int operator(int sign) {
            switch (sign) {
                case TWO + '|':
                    return OR;
                case TWO + '&':
                    return AND;
                case '=':
                    return EQUAL;
                case TWO + '!':
                    return UNEQUAL;
                case '<':
                    return LESS;
                case '>':
                    return GREATER;
                case TWO + '<':
                    return AT_MOST;
                case TWO + '>':
                    return AT_LEAST;
                case '+':
                    return PLUS;
                case '-':
                    return TAKE;
                case '*':
                    return TIMES;
                case '/':
                    return OVER;
                default:
                    return 0;
            }
        }

        /** How closely an operator binds; 0 for what is open until its bracket closes. */
        private static int level(int kind) {
            if (kind == OR || kind == AND) {
                return kind == OR ? 1 : 2;
            }
            if (kind >= EQUAL && kind <= AT_LEAST) {
                return 3;
            }
            if (kind >= PLUS && kind <= OVER) {
                return kind <= TAKE ? 4 : 5;
            }
            return kind == OPPOSITE || kind == NEGATION ? 6 : 0;
        }

        private int openLevel() {
            return open == null ? 0 : level(open.kind);
        }

        /** Ends the operators that bind at least so closely: their last operand is whole. */
        private void reduce(int level) {
            for (int i = 0; i <= MAX_NODES && open != null && openLevel() >= level; i++) {
                Node whole = open;
                open = whole.outer;
                whole.add(operand);
                holder.append(whole);
                operand = whole;
            }
        }

        private void operator(int kind, int level) {
            reduce(level > 3 ? level : level + 1);
            if (level == 3 && openLevel() == 3 || level > 2 && tested) {
                tokens.fail(OUT_OF_PLACE);
                return;
            }
            countNode();
            if (level > 2 || open == null || open.kind != kind) {
                push(worthNode(kind));
            }
            open.add(operand);
            operand = null;
            signs = 0;
            tested = false;
            tokens.take();
        }

        private void push(Node node) {
            node.outer = open;
            open = node;
        }

        private void pushSign(int kind) {
            if (signs >= MAX_SIGNS) {
                tokens.fail(NO_SPACE);
            }
            signs++;
            countNode();
            push(worthNode(kind));
            tokens.take();
        }

        /** A node that is worked out: it gets a place for its value. */
        private Node worthNode(int kind) {
            Node node = new Node(kind, tokens.here);
            if (valuesUsed < values.length) {
                if (values[valuesUsed] == null) {
                    values[valuesUsed] = new Value();
                }
                node.value = values[valuesUsed];
                valuesUsed++;
            }
            return node;
        }

        private Node leaf(int kind) {
            Node leaf = worthNode(kind);
            if (kind == CONSTANT && leaf.value != null) {
                terms.load(tokens.id(), leaf.value);
            }
            return leaf;
        }

        private void fillLeaf(Node leaf) {
            if (leaf.kind == VARIABLE) {
                leaf.variable = tokens.variable();
            }
            holder.append(leaf);
            operand = leaf;
            signs = 0;
            tokens.take();
        }

        private void countNode() {
            if (nodes >= MAX_NODES) {
                tokens.fail(NO_SPACE);
            }
            nodes++;
        }

        private void openBracket(Node frame) {
            if (!tokens.isSign('(')) {
                tokens.fail(OUT_OF_PLACE);
            } else if (brackets >= MAX_BRACKETS) {
                tokens.fail(NO_SPACE);
            }
            brackets++;
            push(frame);
            operand = null;
            signs = 0;
            tested = false;
            tokens.take();
        }

        private void closeBracket() {
            Node frame = open;
            boolean whole = true;
            if (frame.kind != BRACKET && operand != null) {
                if (frame.kind < COUNT) {
                    frame.add(operand);
                    frame.size++;
                }
                whole = frame.kind < IF || frame.kind > SUBSTR || frame.size >= LEAST[frame.kind - IF];
            }
            if (!whole || !tokens.isSign(')')) {
                tokens.fail(OUT_OF_PLACE);
            }
            open = frame.outer;
            brackets--;
            if (frame.kind >= COUNT && frame.kind <= GROUPCONCAT) {
                holder = base;
            }
            if (frame.kind != BRACKET) {
                holder.append(frame);
                operand = frame;
            }
            tested = frame.kind == IN;
            tokens.take();
        }

        private void nextArgument() {
            boolean isFunction = open.kind >= IF && open.kind <= SUBSTR;
            boolean full = isFunction && open.size + 1 >= MOST[open.kind - IF];
            if (open.kind != IN && !isFunction || full) {
                tokens.fail(OUT_OF_PLACE);
            }
            open.add(operand);
            open.size++;
            operand = null;
            signs = 0;
            tested = false;
            tokens.take();
        }

        private void function(int word) {
            countNode();
            Node function = worthNode(word);
            tokens.take();
            openBracket(function);
            if (tokens.isSign(')') && LEAST[word - IF] == 0) {
                closeBracket();
            }
        }

        private void among() {
            reduce(4);
            if (tested || openLevel() == 3) {
                tokens.fail(OUT_OF_PLACE);
            }
            boolean negated = tokens.isWord(NOT);
            if (negated) {
                tokens.take();
            }
            if (!tokens.isWord(IN)) {
                tokens.fail(OUT_OF_PLACE);
            }
            countNode();
            Node among = worthNode(IN);
            among.negated = negated;
            among.add(operand);
            tokens.take();
            openBracket(among);
            if (tokens.isSign(')')) {
                closeBracket();
            }
        }

        private void bound() {
            countNode();
            Node bound = worthNode(BOUND);
            tokens.take();
            openBracket(bound);
            if (tokens.isVariable()) {
                countNode();
                fillLeaf(leaf(VARIABLE));
            } else {
                tokens.fail(OUT_OF_PLACE);
            }
            closeBracket();
        }

        private void aggregate(int word) {
            if (select == null || holder != base) {
                tokens.fail(FORBIDDEN);
            }
            countNode();
            Node aggregate = worthNode(word);
            tokens.take();
            openBracket(aggregate);
            if (tokens.fault != 0) {
                return;
            }
            select.grouped = true;
            holder = aggregate;
            if (tokens.isWord(DISTINCT)) {
                aggregate.distinct = true;
                tokens.take();
            }
            if (word == COUNT && tokens.isSign('*')) {
                aggregate.star = true;
                tokens.take();
                closeBracket();
            }
        }

        /** The TEXT of GROUPCONCAT. */
        private void separator() {
            tokens.take();
            if (tokens.termKind() != TEXT) {
                tokens.fail(OUT_OF_PLACE);
            }
            open.object = tokens.id();
            tokens.take();
            closeBracket();
        }

        /** Reads [NOT] EXISTS with its group, in which other expressions may stand. */
        private Node exists() {
            boolean negated = tokens.isWord(NOT);
            if (negated) {
                tokens.take();
            }
            if (!tokens.isWord(EXISTS)) {
                tokens.fail(OUT_OF_PLACE);
            }
            countNode();
            Node exists = worthNode(EXISTS);
            exists.negated = negated;
            tokens.take();
            Node baseWas = base;
            Node holderWas = holder;
            Node openWas = open;
            Node selectWas = select;
            int depthWas = depth;
            int bracketsWas = brackets;
            exists.inner = group(depth + 1);
            base = baseWas;
            holder = holderWas;
            open = openWas;
            select = selectWas;
            depth = depthWas;
            brackets = bracketsWas;
            signs = 0;
            tested = false;
            return exists;
        }
    }

    /** Rows that give terms to variables, bag upon bag; and what a statement has made so far. */
    private static final class Rows {
        private final Terms terms;
        private final int[] columns = new int[MAX_VARIABLES + MAX_KEYS];
        private final boolean[] downward = new boolean[MAX_VARIABLES + MAX_KEYS];
        private final int[] held = new int[MAX_VARIABLES + MAX_KEYS];
        private int compared;           // how many columns compareBy() named
        private int[] cells = new int[1024];
        private int[] order = new int[64];
        private int[] spare = new int[64];
        private int[] slots = new int[128];
        private int slotMask = 127;
        private int width = 3;
        private int limit;
        int variables;                  // the first columns; sort keys stand behind
        int top;
        int made;
        boolean over;                   // more than limit was made

        Rows(Terms terms) {
            this.terms = terms;
        }

        void begin(int variableCount, int keys, int mayMake) {
            variables = Math.max(0, Math.min(variableCount, MAX_VARIABLES));
            width = Math.max(3, variables + Math.max(0, Math.min(keys, MAX_KEYS)));
            limit = mayMake;
            top = 0;
            made = 0;
            over = false;
        }

        void spend(int n) {
            made += n;
            over = over || made > limit;
        }

        private boolean hasRoomFor(int row) {
            return row >= 0 && row < MAX_ROWS && row * width + width <= cells.length;
        }

        int get(int row, int column) {
            int at = row * width + column;
            return row >= 0 && row < MAX_ROWS && column >= 0 && column < width && at < cells.length ? cells[at] : 0;
        }

        void set(int row, int column, int id) {
            int at = row * width + column;
            if (row >= 0 && row < MAX_ROWS && column >= 0 && column < width && at < cells.length) {
                cells[at] = id;
            }
        }

        /** A new row that gives nothing. */
        int push() {
            if (top >= MAX_ROWS) {
                over = true;
                return -1;
            }
            int from = top * width;
            if (from + width > cells.length) {
                int room = Math.min(2 * cells.length, MAX_ROWS * held.length);
                cells = Arrays.copyOf(cells, Math.max(from + width, room));
            }
            Arrays.fill(cells, from, from + width, 0);
            top++;
            return top - 1;
        }

        /** A new row that gives what another one does. */
        int pushCopy(int row) {
            int copy = push();
            if (hasRoomFor(row) && hasRoomFor(copy)) {
                System.arraycopy(cells, row * width, cells, copy * width, variables);
            }
            return copy;
        }

        boolean fit(int a, int b) {
            for (int v = 0; v < variables; v++) {
                int one = get(a, v);
                int other = get(b, v);
                if (one != other && one != 0 && other != 0) {
                    return false;
                }
            }
            return true;
        }

        boolean share(int a, int b) {
            for (int v = 0; v < variables; v++) {
                if (get(a, v) != 0 && get(b, v) != 0) {
                    return true;
                }
            }
            return false;
        }

        int pushJoined(int a, int b) {
            int joined = pushCopy(a);
            for (int v = 0; v < variables; v++) {
                if (get(joined, v) == 0) {
                    set(joined, v, get(b, v));
                }
            }
            return joined;
        }

        /** Joins the bag up to middle with the one from there on; the outcome stands in their place. */
        void join(int from, int middle) {
            int end = top;
            for (int a = from; a < middle && !over; a++) {
                for (int b = middle; b < end && !over; b++) {
                    if (fit(a, b)) {
                        pushJoined(a, b);
                        spend(1);
                    }
                }
            }
            close(end, from);
        }

        /** The rows from one on move down to another one; those between go. */
        void close(int from, int to) {
            if (from >= to && to >= 0 && from <= top) {
                System.arraycopy(cells, from * width, cells, to * width, (top - from) * width);
                top -= from - to;
            }
        }

        void move(int from, int to) {
            if (from != to && hasRoomFor(from) && hasRoomFor(to)) {
                System.arraycopy(cells, from * width, cells, to * width, width);
            }
        }

        /** A term's id, or what a row gives to the variable of a slot. */
        int resolve(int slot, int row) {
            return slot >= 0 ? slot : get(row, -1 - slot);
        }

        void compareNone() {
            compared = 0;
        }

        /** One more column by which rows are compared. */
        void compareBy(int column, boolean down) {
            if (compared < columns.length) {
                columns[compared] = column;
                downward[compared] = down;
                compared++;
            }
        }

        void compareVariables() {
            compareFirst(variables);
        }

        /** By the three columns in which triples stand. */
        void compareTriples() {
            compareFirst(3);
        }

        private void compareFirst(int many) {
            compared = Math.min(many, columns.length);
            for (int i = 0; i < compared; i++) {
                columns[i] = i;
                downward[i] = false;
            }
        }

        private int compare(int a, int b) {
            for (int i = 0; i < compared && i < columns.length; i++) {
                int by = terms.compare(get(a, columns[i]), get(b, columns[i]));
                if (by != 0) {
                    return downward[i] ? -by : by;
                }
            }
            return 0;
        }

        boolean areAlike(int a, int b) {
            for (int i = 0; i < compared && i < columns.length; i++) {
                if (get(a, columns[i]) != get(b, columns[i])) {
                    return false;
                }
            }
            return true;
        }

        void sort(int from, int to) {
            int many = Math.max(0, Math.min(to, MAX_ROWS) - from);
            if (many > order.length) {
                order = new int[Math.max(many, Math.min(MAX_ROWS, 2 * order.length))];
                spare = new int[order.length];
            }
            for (int i = 0; i < many; i++) {
                order[i] = from + i;
            }
            for (int step = 1; step < many; step *= 2) {
                for (int i = 0; i < many; i += 2 * step) {
                    merge(i, Math.min(i + step, many), Math.min(i + 2 * step, many));
                }
                int[] sorted = spare;
                spare = order;
                order = sorted;
            }
            rearrange(from, many);
        }

        private void merge(int from, int middle, int to) {
            int a = from;
            int b = middle;
            for (int i = from; i < to && i < spare.length; i++) {
                if (a < middle && (b >= to || compare(order[a], order[b]) <= 0)) {
                    spare[i] = order[a];
                    a++;
                } else if (b < order.length) {
                    spare[i] = order[b];
                    b++;
                }
            }
        }

        /** Puts rows into the order found: each round of places that follow from one another in turn. */
        private void rearrange(int from, int many) {
            for (int i = 0; i < many && i < order.length; i++) {
                if (order[i] != from + i && hasRoomFor(from + i)) {
                    System.arraycopy(cells, (from + i) * width, held, 0, width);
                    int hole = i;
                    for (int k = 0; k < many && order[hole] != from + i; k++) {
                        int source = order[hole];
                        move(source, from + hole);
                        order[hole] = from + hole;
                        hole = Math.max(0, Math.min(source - from, many - 1));
                    }
                    order[hole] = from + hole;
                    System.arraycopy(held, 0, cells, (from + hole) * width, width);
                }
            }
        }

        /** Forgets the rows that isNew() has met; so many may come. */
        void beginSeen(int many) {
            int size = 16;
            for (int i = 0; i < 16 && size < 2 * many; i++) {
                size *= 2;
            }
            if (size > slots.length) {
                slots = new int[size];
            }
            slotMask = size - 1;
            Arrays.fill(slots, 0, size, 0);
        }

        /** Whether no row that was met before is alike. */
        boolean isNew(int row) {
            int hash = 0;
            for (int i = 0; i < compared && i < columns.length; i++) {
                hash = (hash + get(row, columns[i])) * 0x9E3779B1;
                hash ^= hash >>> 15;
            }
            int slot = hash & slotMask;
            for (int i = 0; i <= slotMask; i++) {
                if (slot < 0 || slot >= slots.length || slots[slot] == 0) {
                    break;
                }
                if (areAlike(slots[slot] - 1, row)) {
                    return false;
                }
                slot = slot + 1 & slotMask;
            }
            if (slot >= 0 && slot < slots.length) {
                slots[slot] = row + 1;
            }
            return true;
        }
    }

    /** Blocks: their plans, their patterns and their paths. */
    private static final class Blocks {
        private static final int START = 0;     // levels of points
        private static final int REACHED = 1;
        private static final int STRANGER = MAX_TERMS + 1;
        private static final int MANY = 10000;

        private final Terms terms;
        private final Triples triples;
        private final Rows rows;
        private final Node[] plan = new Node[MAX_LINES];
        private final Node[] mine = new Node[MAX_PATTERNS];
        private final long[] found = new long[MAX_PATTERNS];
        private final int[] differing = new int[3 * MAX_PATTERNS];
        private final int[] trial = new int[MAX_PATTERNS];
        private final int[] best = new int[MAX_PATTERNS];
        private final int[] stamps = new int[MAX_TERMS + 1];
        private final int[][] times = new int[MAX_LEVELS][MAX_TERMS + 2];     // by level and point
        private final int[][] points = new int[MAX_LEVELS][MAX_TERMS + 2];
        private final int[] pointCounts = new int[MAX_LEVELS];
        private int stamp;
        private int many;           // how many patterns the block has
        private long least;
        int planned;

        Blocks(Terms terms, Triples triples, Rows rows) {
            this.terms = terms;
            this.triples = triples;
            this.rows = rows;
        }

        int plannedPattern(int k) {
            return k >= 0 && k < planned && k < plan.length && plan[k] != null ? plan[k].count : BAD;
        }

        // Plans.

        void planAll(Node firstBlock) {
            planned = 0;
            for (Node b = firstBlock; b != null; b = b.follow) {
                planBlock(b);
            }
        }

        private void planBlock(Node b) {
            many = 0;
            for (Node line = b.first; line != null; line = line.next) {
                if (line.kind == PATTERN && many < MAX_PATTERNS) {
                    mine[many] = line;
                    measure(many, line);
                    many++;
                }
            }
            least = MAX_SIZE + 1;
            arrange(0, 0, 0, 1, 0);
            b.object = planned;
            for (int i = 0; i < many && planned < plan.length; i++) {
                plan[planned] = mine[Math.max(0, Math.min(best[i], MAX_PATTERNS - 1))];
                planned++;
            }
        }

        /** How many triples have a pattern's terms, and how many terms differ in each place of these. */
        private void measure(int index, Node line) {
            triples.locateWith(Math.max(0, line.subject), Math.max(0, line.verb), Math.max(0, line.object));
            found[index] = triples.to - triples.from;
            for (int place = 0; place < 3; place++) {
                stamp++;
                int differ = 0;
                for (int k = triples.from; k < triples.to; k++) {
                    int term = triples.part(triples.order, k, place);
                    if (term < stamps.length && stamps[term] != stamp) {
                        stamps[term] = stamp;
                        differ++;
                    }
                }
                differing[3 * index + place] = differ;
            }
        }

        private long estimate(int index, int known) {
            Node line = mine[index];
            long by = 1;
            if (line == null) {
                return 0;
            }
            by *= isKnown(line.subject, known) ? differing[3 * index] : 1;
            by *= isKnown(line.verb, known) ? differing[3 * index + 1] : 1;
            by *= isKnown(line.object, known) ? differing[3 * index + 2] : 1;
            return by <= 0 ? 0 : (found[index] + by - 1) / by;
        }

        private boolean isKnown(int slot, int known) {
            return slot < 0 && (known >> -1 - slot & 1) != 0;
        }

        private int knownBy(int slot) {
            return slot < 0 ? 1 << -1 - slot : 0;
        }

        /** Tries all orders, the first in the text first; one takes another's place only if it is less. */
        private void arrange(int depth, int used, int known, long size, long sum) {
            if (depth >= many) {
                least = sum;
                System.arraycopy(trial, 0, best, 0, many);
                return;
            }
            for (int i = 0; i < many && i < MAX_PATTERNS; i++) {
                if ((used >> i & 1) == 0) {
                    long next = Math.min(MAX_SIZE, size * estimate(i, known));
                    long total = Math.min(MAX_SIZE, sum + next);
                    Node line = mine[i];
                    if (total < least && line != null && depth < trial.length) {
                        trial[depth] = i;
                        int then = known | knownBy(line.subject) | knownBy(line.verb) | knownBy(line.object);
                        arrange(depth + 1, used | 1 << i, then, next, total);
                    }
                }
            }
        }

        // Patterns.

        /** The pattern of a block that is done at a place; null when there is none. */
        Node plannedAt(Node b, int i) {
            int at = b.object + i;
            return i >= 0 && i < b.size && at >= 0 && at < planned && at < plan.length ? plan[at] : null;
        }

        /** Does a pattern or path line from the bag that begins at a row; nothing for null. */
        void line(Node line, int from) {
            if (line == null) {
                return;
            }
            int end = rows.top;
            for (int r = from; r < end && !rows.over; r++) {
                if (line.kind == PATTERN) {
                    pattern(line, r);
                } else {
                    pathLine(line, r);
                }
            }
            rows.close(end, from);
        }

        private void pattern(Node line, int row) {
            triples.locateWith(rows.resolve(line.subject, row), rows.resolve(line.verb, row),
                rows.resolve(line.object, row));
            int order = triples.order;
            int to = triples.to;
            for (int k = triples.from; k < to && !rows.over; k++) {
                int s = triples.part(order, k, 0);
                int p = triples.part(order, k, 1);
                int o = triples.part(order, k, 2);
                boolean differs = isOneVariable(line.subject, line.verb) && s != p
                    || isOneVariable(line.subject, line.object) && s != o
                    || isOneVariable(line.verb, line.object) && p != o;
                if (!differs) {
                    int made = rows.pushCopy(row);
                    give(made, line.subject, s);
                    give(made, line.verb, p);
                    give(made, line.object, o);
                    rows.spend(1);
                }
            }
        }

        private boolean isOneVariable(int a, int b) {
            return a < 0 && a == b;
        }

        private void give(int row, int slot, int term) {
            if (slot < 0) {
                rows.set(row, -1 - slot, term);
            }
        }

        // Paths. A level is a bag of points: how often each is there, and which are there at all.

        private void pathLine(Node line, int row) {
            int s = rows.resolve(line.subject, row);
            int o = rows.resolve(line.object, row);
            boolean given = s != 0 || o != 0;
            boolean back = s == 0 && o != 0;
            int first = !given ? 1 : back ? o : s;
            int last = given ? first : terms.numbered;
            for (int term = first; term <= last && !rows.over; term++) {
                if (given || triples.isPoint(term)) {
                    clear(START);
                    clear(REACHED);
                    add(START, pointOf(term), 1, false);
                    walk(line.inner, back ? 1 : 0, START, REACHED, REACHED + 1);
                    int due = s != 0 && o != 0 ? o : isOneVariable(line.subject, line.object) ? term : 0;
                    giveReached(line, row, term, back, due);
                }
            }
        }

        private static int pointOf(int term) {
            return term <= MAX_TERMS ? term : STRANGER;
        }

        /** Gives the rows for a start and all that was reached, or one of these, if one is due. */
        private void giveReached(Node line, int row, int start, boolean back, int due) {
            for (int i = 0; i < pointCounts[REACHED] && !rows.over; i++) {
                int point = points[REACHED][i];
                int end = point == STRANGER ? start : point;
                int often = due == 0 || due == end ? times[REACHED][point] : 0;
                for (int k = 0; k < often && !rows.over; k++) {
                    int made = rows.pushCopy(row);
                    give(made, line.subject, back ? end : start);
                    give(made, line.object, back ? start : end);
                    rows.spend(1);
                }
            }
        }

        private void clear(int level) {
            for (int i = 0; i < pointCounts[level] && i < MAX_TERMS + 2; i++) {
                times[level][points[level][i]] = 0;
            }
            pointCounts[level] = 0;
        }

        /** Adds a point so many times, or once in all; more than MANY are more than can be made. */
        private void add(int level, int point, int often, boolean once) {
            if (point < 0 || point > STRANGER || often <= 0) {
                return;
            }
            int had = times[level][point];
            if (had == 0 && pointCounts[level] < MAX_TERMS + 2) {
                points[level][pointCounts[level]] = point;
                pointCounts[level]++;
            }
            times[level][point] = once ? 1 : Math.min(MANY, had + often);
        }

        /**
         * Adds to a level the points to which a path leads from those of another one. way has 1 for
         * backwards, 2 where it matters only whether a point is found. Levels from free on are free.
         */
        private void walk(Node step, int way, int from, int to, int free) {
            if (step == null || free + 4 > MAX_LEVELS || rows.over) {
                return;
            }
            switch (step.kind) {
                case STEP:
                    walkName(step, way, from, to);
                    break;
                case STEP_OTHER:
                    walkOther(step, way, from, to, false);
                    walkOther(step, way, from, to, true);
                    break;
                case STEP_BACK:
                    walk(step.first, way ^ 1, from, to, free);
                    break;
                case STEP_CHOICE:
                    for (Node one = step.first; one != null; one = one.next) {
                        walk(one, way, from, to, free);
                    }
                    break;
                case STEP_ROW:
                    walkRow(step, way, from, to, free);
                    break;
                default:
                    walkRepeated(step, way, from, to, free);
            }
        }

        private void walkName(Node step, int way, int from, int to) {
            boolean back = (way & 1) != 0;
            int order = back ? 5 : 0;
            for (int i = 0; i < pointCounts[from]; i++) {
                int point = points[from][i];
                int end = point <= terms.numbered ? triples.startOf(order, point + 1) : 0;
                for (int k = triples.startOf(order, point); k < end; k++) {
                    if (triples.part(order, k, 1) == step.object) {
                        add(to, triples.part(order, k, back ? 0 : 2), times[from][point], (way & 2) != 0);
                    }
                }
            }
        }

        /** The names behind !, of one sort: those without ^ or those with it. */
        private void walkOther(Node step, int way, int from, int to, boolean sort) {
            boolean isSaid = false;
            for (Node name = step.first; name != null; name = name.next) {
                isSaid = isSaid || name.negated == sort;
            }
            boolean back = (way & 1) != 0 != sort;
            int order = back ? 5 : 0;
            for (int i = 0; i < pointCounts[from] && isSaid; i++) {
                int point = points[from][i];
                int end = point <= terms.numbered ? triples.startOf(order, point + 1) : 0;
                for (int k = triples.startOf(order, point); k < end; k++) {
                    if (!isAmong(step, triples.part(order, k, 1), sort)) {
                        add(to, triples.part(order, k, back ? 0 : 2), times[from][point], (way & 2) != 0);
                    }
                }
            }
        }

        private boolean isAmong(Node step, int predicate, boolean sort) {
            for (Node name = step.first; name != null; name = name.next) {
                if (name.negated == sort && name.object == predicate) {
                    return true;
                }
            }
            return false;
        }

        private void walkRow(Node step, int way, int from, int to, int free) {
            int many = 0;
            for (Node one = step.first; one != null; one = one.next) {
                many++;
            }
            int at = from;
            for (int i = 0; i < many && i <= MAX_STEPS; i++) {
                boolean isLast = i == many - 1;
                int then = isLast ? to : free + (i & 1);
                if (!isLast) {
                    clear(then);
                }
                walk(pieceAt(step, (way & 1) != 0 ? many - 1 - i : i), way, at, then, free + 2);
                at = then;
            }
        }

        private Node pieceAt(Node step, int index) {
            Node piece = step.first;
            for (int i = 0; i < index && piece != null; i++) {
                piece = piece.next;
            }
            return piece;
        }

        /** ? * +: a point that is found is found once for each point from which it is. */
        private void walkRepeated(Node step, int way, int from, int to, int free) {
            if ((way & 2) != 0) {
                repeat(step, way, from, free);
                for (int i = 0; i < pointCounts[free]; i++) {
                    add(to, points[free][i], 1, true);
                }
                return;
            }
            for (int i = 0; i < pointCounts[from] && !rows.over; i++) {
                int point = points[from][i];
                int single = free;
                int reached = free + 1;
                clear(single);
                add(single, point, 1, true);
                repeat(step, way | 2, single, reached);
                for (int k = 0; k < pointCounts[reached]; k++) {
                    add(to, points[reached][k], times[from][point], false);
                }
            }
        }

        /** Finds in a level all that ? * + reach from the points of another one; the levels behind are free. */
        private void repeat(Node step, int way, int from, int reached) {
            int edge = reached + 1;
            int next = reached + 2;
            if (next + 1 >= MAX_LEVELS) {
                return;
            }
            clear(reached);
            clear(edge);
            for (int i = 0; i < pointCounts[from]; i++) {
                add(edge, points[from][i], 1, true);
                if (step.kind != STEP_SOME) {
                    add(reached, points[from][i], 1, true);
                }
            }
            int rounds = step.kind == STEP_MAYBE ? 1 : MAX_TERMS + 2;
            for (int i = 0; i < rounds && pointCounts[edge] > 0 && !rows.over; i++) {
                clear(next);
                walk(step.first, way, edge, next, next + 1);
                clear(edge);
                for (int k = 0; k < pointCounts[next]; k++) {
                    int point = points[next][k];
                    if (times[reached][point] == 0) {
                        add(reached, point, 1, true);
                        add(edge, point, 1, true);
                    }
                }
            }
        }
    }

    /** Works out expressions for rows. */
    private static final class Expressions {
        private final Terms terms;
        private final Rows rows;
        private final Value nothing = new Value();
        private final Value spare = new Value();
        private final Value piece = new Value();
        private final long[] limbs = new long[5];   // a large number by billions, the lowest first
        Groups groups;
        int setFrom;        // the rows that aggregates look at
        int setTo;

        Expressions(Terms terms, Rows rows) {
            this.terms = terms;
            this.rows = rows;
        }

        /** What an expression is worth for a row: what its last node is. */
        private Value worth(Node item, int row) {
            Value value = nothing;
            for (Node n = item.start; n != null; n = n.follow) {
                if (n.value != null) {
                    work(n, n.value, row);
                    value = n.value;
                }
            }
            return value;
        }

        private boolean holds(Node item, int row) {
            return worth(item, row).asTruth() > 0;
        }

        private void work(Node n, Value v, int row) {
            rows.spend(1);
            if (n.kind == CONSTANT) {
                return;
            }
            if (n.kind == VARIABLE) {
                terms.load(rows.get(row, n.variable), v);
            } else if (n.kind == EXISTS) {
                v.truth(exists(n, row) != n.negated ? 1 : 0);
            } else if (n.kind == OR || n.kind == AND) {
                v.truth(logic(n));
            } else if (n.kind == IN) {
                v.truth(among(n));
            } else if (n.kind >= COUNT && n.kind <= GROUPCONCAT) {
                aggregate(n, v);
            } else {
                simple(n, v);
            }
        }

        private boolean exists(Node n, int row) {
            int base = rows.top;
            rows.pushCopy(row);
            if (groups != null && n.inner != null) {
                groups.group(n.inner, base, true);
            }
            boolean any = rows.top > base;
            rows.top = base;
            return any;
        }

        /** By three: -1 for ERROR. */
        private int logic(Node n) {
            int ends = n.kind == OR ? 1 : 0;
            int truth = 1 - ends;
            for (Node one = n.first; one != null; one = one.next) {
                int is = one.value == null ? -1 : one.value.asTruth();
                if (is == ends || is < 0 && truth != ends) {
                    truth = is;
                }
            }
            return truth;
        }

        private int among(Node n) {
            Value asked = n.worth(0);
            if (asked == null || asked.kind == 0) {
                return -1;
            }
            int truth = 0;
            for (Node one = n.first.next; one != null; one = one.next) {
                int is = one.value == null ? -1 : equal(asked, one.value);
                if (is > 0 || is < 0 && truth == 0) {
                    truth = is;
                }
            }
            return truth >= 0 && n.negated ? 1 - truth : truth;
        }

        private int equal(Value a, Value b) {
            if (a.kind == 0 || b.kind == 0) {
                return -1;
            }
            if (a.isNumber() && b.isNumber()) {
                return a.compareNumber(b) == 0 ? 1 : 0;
            }
            if (a.isSame(b)) {
                return 1;
            }
            return a.kind == TYPED && b.kind >= WHOLE || b.kind == TYPED && a.kind >= WHOLE ? -1 : 0;
        }

        private int less(Value a, Value b) {
            if (a.isNumber() && b.isNumber()) {
                return a.compareNumber(b) < 0 ? 1 : 0;
            }
            if (a.kind == TEXT && b.kind == TEXT) {
                return compareBytes(a.text, 0, a.length, b.text, 0, b.length) < 0 ? 1 : 0;
            }
            return a.kind == TRUTH && b.kind == TRUTH ? (a.number < b.number ? 1 : 0) : -1;
        }

        private int opposite(int truth) {
            return truth < 0 ? -1 : 1 - truth;
        }

        /** What rests on the values of its pieces alone. */
        private void simple(Node n, Value v) {
            Value a = n.worth(0);
            Value b = n.worth(1);
            Value c = n.worth(2);
            a = a == null ? nothing : a;
            b = b == null ? nothing : b;
            c = c == null ? nothing : c;
            if (n.kind >= EQUAL && n.kind <= AT_LEAST) {
                v.truth(comparison(n.kind, a, b));
            } else if (n.kind >= PLUS && n.kind <= OVER) {
                arithmetic(n.kind, a, b, v);
            } else if (n.kind == NEGATION) {
                v.truth(opposite(a.asTruth()));
            } else if (n.kind == OPPOSITE || n.kind >= ABS && n.kind <= ROUND) {
                ofNumber(n.kind, a, v);
            } else if (n.kind == BOUND) {
                v.truth(a.kind != 0 ? 1 : 0);
            } else if (n.kind == IF) {
                int truth = a.asTruth();
                v.copy(truth < 0 ? nothing : truth > 0 ? b : c);
            } else if (n.kind == COALESCE) {
                coalesce(n, v);
            } else if (n.kind == CONCAT) {
                concat(n, v);
            } else if (n.kind == SUBSTR) {
                substr(a, b, c, v);
            } else if (n.kind >= STRSTARTS) {
                ofTwo(n.kind, a, b, v);
            } else {
                ofTerm(n.kind, a, v);
            }
        }

        private int comparison(int kind, Value a, Value b) {
            switch (kind) {
                case EQUAL:
                    return equal(a, b);
                case UNEQUAL:
                    return opposite(equal(a, b));
                case LESS:
                    return less(a, b);
                case GREATER:
                    return less(b, a);
                case AT_MOST:
                    return opposite(less(b, a));
                default:
                    return opposite(less(a, b));
            }
        }

        private void coalesce(Node n, Value v) {
            v.become(0);
            for (Node one = n.first; one != null && v.kind == 0; one = one.next) {
                if (one.value != null) {
                    v.copy(one.value);
                }
            }
        }

        private void concat(Node n, Value v) {
            v.become(TEXT);
            boolean plain = true;
            boolean oneTag = n.first != null;
            for (Node one = n.first; one != null; one = one.next) {
                Value part = one.value == null ? nothing : one.value;
                Value head = n.worth(0) == null ? nothing : n.worth(0);
                plain = plain && part.isPlain();
                oneTag = oneTag && part.kind == TAGGED && part.sameExtra(head);
                if (plain) {
                    v.appendAll(part);
                }
            }
            if (!plain || v.kind == 0) {
                v.become(0);
            } else if (oneTag) {
                v.kind = TAGGED;
                v.takeExtra(n.worth(0));
            }
        }

        private void substr(Value a, Value b, Value c, Value v) {
            if (!a.isPlain() || b.kind != WHOLE || c.kind != WHOLE) {
                v.become(0);
                return;
            }
            v.cut(a, b.number - 1, b.number - 1 + c.number);
        }

        private void ofTwo(int kind, Value a, Value b, Value v) {
            v.become(0);
            if (kind == SAMETERM) {
                v.truth(a.kind == 0 || b.kind == 0 ? -1 : a.isSame(b) ? 1 : 0);
                return;
            }
            boolean fit = b.kind == TEXT || b.kind == TAGGED && a.kind == TAGGED && a.sameExtra(b);
            if (!a.isPlain() || !fit) {
                return;
            }
            int place = a.search(b);
            if (kind == STRSTARTS) {
                v.truth(a.hasAt(0, b) ? 1 : 0);
            } else if (kind == STRENDS) {
                v.truth(a.hasAt(a.length - b.length, b) ? 1 : 0);
            } else if (kind == CONTAINS) {
                v.truth(place >= 0 ? 1 : 0);
            } else if (place < 0) {
                v.become(TEXT);
            } else if (kind == STRBEFORE) {
                v.cut(a, 0, place);
            } else {
                v.cut(a, place + b.length, a.length);
            }
        }

        /** Functions of one term that is no ERROR. */
        private void ofTerm(int kind, Value a, Value v) {
            v.become(0);
            if (a.kind == 0) {
                return;
            }
            switch (kind) {
                case STR:
                    v.string(a);
                    break;
                case LANG:
                case DATATYPE:
                    describe(kind, a, v);
                    break;
                case TONAME:
                    toName(a, v);
                    break;
                case ISNAME:
                    v.truth(a.kind == NAME ? 1 : 0);
                    break;
                case ISBLANK:
                    v.truth(a.kind == BLANK ? 1 : 0);
                    break;
                case ISLITERAL:
                    v.truth(a.kind >= WHOLE ? 1 : 0);
                    break;
                case ISNUMERIC:
                    v.truth(a.isNumber() ? 1 : 0);
                    break;
                default:
                    ofPlain(kind, a, v);
            }
        }

        /** STRLEN, UCASE, LCASE. */
        private void ofPlain(int kind, Value a, Value v) {
            if (!a.isPlain()) {
                return;
            }
            if (kind == STRLEN) {
                v.numeric(WHOLE, a.length, 0);
                return;
            }
            v.become(a.kind);
            v.takeExtra(a);
            for (int i = 0; i < a.length && i < a.text.length; i++) {
                int b = a.text[i];
                if (kind == UCASE) {
                    v.append(isSmall(b) ? b - 32 : b);
                } else {
                    v.append(isCapital(b) ? b + 32 : b);
                }
            }
        }

        private void describe(int kind, Value a, Value v) {
            if (a.kind < WHOLE) {
                return;
            }
            boolean isTag = kind == LANG && a.kind == TAGGED;
            if (isTag || kind == DATATYPE && a.kind == TYPED) {
                v.become(isTag ? TEXT : NAME);
                for (int i = 0; i < a.extraLength && i < a.extra.length; i++) {
                    v.append(a.extra[i]);
                }
            } else if (kind == LANG) {
                v.become(TEXT);
            } else {
                v.spell(NAME, typeOf(a.kind));
            }
        }

        private static String typeOf(int kind) {
            switch (kind) {
                case WHOLE:
                    return "whole";
                case DECIMAL:
                    return "decimal";
                case TEXT:
                    return "text";
                case TAGGED:
                    return "tagged";
                default:
                    return "truth";
            }
        }

        private void toName(Value a, Value v) {
            boolean fit = a.kind == NAME || a.kind == TEXT && a.length >= 1 && a.length <= MAX_NAME;
            for (int i = 0; i < a.length && i < a.text.length; i++) {
                fit = fit && isNameByte(a.text[i]);
            }
            if (fit) {
                v.become(NAME);
                v.appendAll(a);
            }
        }

        // Numbers.

        /** - of one number, ABS, CEIL, FLOOR, ROUND. */
        private void ofNumber(int kind, Value a, Value v) {
            v.become(0);
            if (!a.isNumber()) {
                return;
            }
            if (kind == OPPOSITE || kind == ABS) {
                v.numeric(a.kind, kind == ABS ? Math.abs(a.number) : -a.number, a.scale);
                return;
            }
            long whole = a.whole();
            long part = a.billionths();
            if (kind == CEIL && part > 0 || kind == ROUND && 2 * part >= BILLION) {
                whole++;
            }
            v.numeric(a.kind, whole, 0);
        }

        private void arithmetic(int kind, Value a, Value b, Value v) {
            v.become(0);
            if (!a.isNumber() || !b.isNumber()) {
                return;
            }
            boolean decimal = a.kind == DECIMAL || b.kind == DECIMAL;
            switch (kind) {
                case PLUS:
                    settleSum(a.whole() + b.whole(), a.billionths() + b.billionths(), decimal, v);
                    break;
                case TAKE:
                    settleSum(a.whole() - b.whole(), a.billionths() - b.billionths(), decimal, v);
                    break;
                case TIMES:
                    multiply(a, b);
                    settle(a.number < 0 != b.number < 0, decimal, v);
                    break;
                default:
                    divide(a, b, v);
            }
        }

        /** A number of wholes and billionths, each of either sign. */
        private void settleSum(long wholes, long billionths, boolean decimal, Value v) {
            long whole = wholes + Math.floorDiv(billionths, BILLION);
            long part = Math.floorMod(billionths, BILLION);
            boolean negative = whole < 0;
            if (negative) {
                whole = part > 0 ? -1 - whole : -whole;
                part = part > 0 ? BILLION - part : 0;
            }
            setLimbs(part, whole % BILLION, whole / BILLION, 0, 0);
            settle(negative, decimal, v);
        }

        private void setLimbs(long a, long b, long c, long d, long e) {
            limbs[0] = a;
            limbs[1] = b;
            limbs[2] = c;
            limbs[3] = d;
            limbs[4] = e;
        }

        /** The limbs, in billionths, become a number; an ERROR when it is too large. */
        private void settle(boolean negative, boolean decimal, Value v) {
            v.become(0);
            long whole = limbs[2] * BILLION + limbs[1];
            if (limbs[2] >= BILLION || limbs[3] != 0 || limbs[4] != 0) {
                return;
            }
            if (!decimal) {
                v.kind = WHOLE;
                v.number = negative ? -whole : whole;
                return;
            }
            long part = limbs[0];
            int scale = MAX_SCALE;
            while (scale > 0 && part % 10 == 0) {
                part /= 10;
                scale--;
            }
            if (scale < 0 || scale > MAX_SCALE || whole > (LARGEST - part) / TEN[scale]) {
                return;
            }
            long unscaled = whole * TEN[scale] + part;
            v.kind = DECIMAL;
            v.number = negative ? -unscaled : unscaled;
            v.scale = scale;
        }

        /** The limbs become the product, in billionths, rounded; the sign is left out. */
        private void multiply(Value a, Value b) {
            long x = Math.abs(a.number);
            long y = Math.abs(b.number);
            long low = x % BILLION * (y % BILLION);
            long middle = x / BILLION * (y % BILLION) + x % BILLION * (y / BILLION) + low / BILLION;
            long high = x / BILLION * (y / BILLION) + middle / BILLION;
            setLimbs(low % BILLION, middle % BILLION, high % BILLION, high / BILLION, 0);
            int scale = a.scale + b.scale;
            if (scale > MAX_SCALE) {
                divideLimbs(TEN[Math.min(scale - MAX_SCALE, MAX_SCALE)]);
            } else if (scale >= 0) {
                growLimbs(TEN[MAX_SCALE - scale], 0);
            }
        }

        /** Times a factor up to a billion, and some more. */
        private void growLimbs(long factor, long more) {
            long carry = more;
            for (int i = 0; i < limbs.length; i++) {
                long grown = limbs[i] * factor + carry;
                limbs[i] = grown % BILLION;
                carry = grown / BILLION;
            }
        }

        /** Divided by up to a billion; halves are rounded up. */
        private void divideLimbs(long by) {
            long rest = 0;
            for (int i = limbs.length - 1; i >= 0 && by > 0; i--) {
                long all = rest * BILLION + limbs[i];
                limbs[i] = all / by;
                rest = all % by;
            }
            growLimbs(1, 2 * rest >= by ? 1 : 0);
        }

        /** Digit by digit, up to nine behind the dot; the rest is rounded. */
        private void divide(Value a, Value b, Value v) {
            long x = Math.abs(a.number);
            long by = Math.abs(b.number);
            if (by == 0) {
                v.become(0);
                return;
            }
            long rest = x % by;
            setLimbs(x / by % BILLION, x / by / BILLION, 0, 0, 0);
            for (int i = a.scale; i < MAX_SCALE + b.scale; i++) {
                int digit = 0;
                long at = rest;
                for (int bit = 3; bit >= 0; bit--) {    // ten times the rest, by 2, 4, 5 and 10 times
                    at = bit == 1 ? at + rest : 2 * at;
                    digit = bit == 1 ? digit : 2 * digit;
                    if (at >= by) {
                        at -= by;
                        digit++;
                    }
                }
                rest = at;
                growLimbs(10, digit);
            }
            growLimbs(1, 2 * rest >= by ? 1 : 0);
            settle(a.number < 0 != b.number < 0, true, v);
        }

        // Aggregates. The values of a set's rows stand as rows of their own until it is worked out.

        private void aggregate(Node n, Value v) {
            if (n.star && n.distinct) {
                rows.compareVariables();
                rows.sort(setFrom, setTo);
            }
            if (n.star) {
                v.numeric(WHOLE, n.distinct ? countDifferent() : setTo - setFrom, 0);
                return;
            }
            int base = rows.top;
            int to = setTo;
            for (int r = setFrom; r < to && !rows.over; r++) {
                Value one = worth(n, r);
                rows.set(rows.push(), 0, one.kind == 0 ? 0 : terms.intern(one));
            }
            if (n.distinct || n.kind == GROUPCONCAT) {
                rows.compareNone();
                rows.compareBy(0, false);
                rows.sort(base, rows.top);
            }
            if (n.distinct) {
                keepOneEach(base);
            }
            switch (n.kind) {
                case COUNT:
                    v.numeric(WHOLE, rows.top - base - countErrors(base), 0);
                    break;
                case SUM:
                case AVG:
                    total(base, n.kind == AVG, v);
                    break;
                case GROUPCONCAT:
                    chain(base, n.object, v);
                    break;
                default:
                    extreme(base, n.kind == MAX, v);
            }
            rows.top = base;
        }

        /** How many rows of the set differ, when it is sorted. */
        private int countDifferent() {
            int many = 0;
            for (int r = setFrom; r < setTo; r++) {
                many += r == setFrom || !rows.areAlike(r - 1, r) ? 1 : 0;
            }
            return many;
        }

        private void keepOneEach(int base) {
            int to = base;
            for (int r = base; r < rows.top; r++) {
                if (r == base || rows.get(r, 0) != rows.get(to - 1, 0)) {
                    rows.set(to, 0, rows.get(r, 0));
                    to++;
                }
            }
            rows.top = to;
        }

        private int countErrors(int base) {
            int many = 0;
            for (int r = base; r < rows.top; r++) {
                many += rows.get(r, 0) == 0 ? 1 : 0;
            }
            return many;
        }

        private void total(int base, boolean average, Value v) {
            long billions = 0;
            long wholes = 0;
            long billionths = 0;
            boolean decimal = false;
            int many = rows.top - base;
            v.become(0);
            for (int r = base; r < rows.top; r++) {
                terms.load(rows.get(r, 0), spare);
                if (!spare.isNumber()) {
                    return;
                }
                decimal = decimal || spare.kind == DECIMAL;
                billions += Math.floorDiv(spare.whole(), BILLION);
                wholes += Math.floorMod(spare.whole(), BILLION);
                billionths += spare.billionths();
            }
            wholes += billionths / BILLION;
            billions += wholes / BILLION;
            if (billions >= -BILLION && billions < BILLION) {
                settleSum(billions * BILLION + wholes % BILLION, billionths % BILLION, decimal, v);
            }
            if (average && many > 0 && v.kind != 0) {
                spare.copy(v);
                piece.numeric(WHOLE, many, 0);
                divide(spare, piece, v);
            }
        }

        private void extreme(int base, boolean last, Value v) {
            int best = 0;
            for (int r = base; r < rows.top; r++) {
                int id = rows.get(r, 0);
                int by = terms.compare(id, best);
                if (id != 0 && (best == 0 || (last ? by > 0 : by < 0))) {
                    best = id;
                }
            }
            terms.load(best, v);
        }

        /** GROUPCONCAT. */
        private void chain(int base, int between, Value v) {
            v.become(TEXT);
            for (int r = base; r < rows.top; r++) {
                if (r > base && between == 0) {
                    v.append(' ');
                } else if (r > base) {
                    terms.load(between, spare);
                    v.appendAll(spare);
                }
                terms.load(rows.get(r, 0), piece);
                spare.string(piece);
                if (spare.kind == 0 || v.kind == 0) {
                    v.become(0);
                    return;
                }
                v.appendAll(spare);
            }
            if (v.kind == 0) {
                v.become(0);
            }
        }
    }

    /** Groups, and what SELECTs give. */
    private static final class Groups {
        private final Terms terms;
        private final Rows rows;
        private final Blocks blocks;
        private final Expressions expressions;
        private int termsMade;
        private int bytesMade;

        Groups(Terms terms, Rows rows, Blocks blocks, Expressions expressions) {
            this.terms = terms;
            this.rows = rows;
            this.blocks = blocks;
            this.expressions = expressions;
        }

        void begin() {
            termsMade = 0;
            bytesMade = 0;
        }

        /**
         * Does a group from the bag that begins at a row; what it gives stands in its place. Groups
         * stand at most MAX_NESTED deep in one another, and so do these calls.
         */
        private void group(Node g, int from, boolean filtered) {
            if (g.inner != null) {
                int middle = rows.top;
                select(g.inner, middle);
                rows.join(from, middle);
                return;
            }
            rows.spend(g.count);
            for (Node part = g.first; part != null && !rows.over; part = part.next) {
                part(part, from);
            }
            if (filtered && !rows.over) {
                filter(g, from);
            }
        }

        private void part(Node part, int from) {
            switch (part.kind) {
                case BLOCK:
                    for (int i = 0; i < part.size && !rows.over; i++) {
                        blocks.line(blocks.plannedAt(part, i), from);
                    }
                    for (Node line = part.first; line != null && !rows.over; line = line.next) {
                        blocks.line(line.kind == PATH_LINE ? line : null, from);
                    }
                    break;
                case OPTIONAL:
                    optional(part, from);
                    break;
                case MINUS:
                    minus(part, from);
                    break;
                case UNION:
                    int middle = rows.top;
                    for (Node g = part.first; g != null && !rows.over; g = g.next) {
                        bag(g, true);
                    }
                    rows.join(from, middle);
                    break;
                case BIND:
                    for (int r = from; r < rows.top && !rows.over; r++) {
                        Value value = expressions.worth(part, r);
                        if (rows.get(r, part.variable) == 0) {
                            rows.set(r, part.variable, keep(value));
                        }
                    }
                    break;
                case VALUES:
                    table(part, from);
                    break;
                default:
                    break;      // FILTERs wait for the group's end
            }
        }

        /** Puts the bag of a group, done from the empty row, behind all rows. */
        private void bag(Node g, boolean filtered) {
            int base = rows.top;
            rows.push();
            if (g != null) {
                group(g, base, filtered);
            }
        }

        private void filter(Node g, int from) {
            int to = from;
            int end = rows.top;
            for (int r = from; r < end && !rows.over; r++) {
                if (passes(g, r)) {
                    rows.move(r, to);
                    to++;
                }
            }
            rows.top = to;
        }

        /** Whether all FILTERs of a group are TRUE for a row; each of them is worked out. */
        private boolean passes(Node g, int row) {
            boolean all = true;
            for (Node part = g.first; part != null; part = part.next) {
                if (part.kind == FILTER) {
                    boolean holds = expressions.holds(part, row);
                    all = all && holds;
                }
            }
            return all;
        }

        private void optional(Node part, int from) {
            Node g = part.inner;
            int middle = rows.top;
            bag(g, false);
            int end = rows.top;
            for (int a = from; a < middle && !rows.over; a++) {
                boolean any = false;
                for (int b = middle; b < end && !rows.over; b++) {
                    if (rows.fit(a, b)) {
                        int joined = rows.pushJoined(a, b);
                        rows.spend(1);
                        boolean passes = g == null || g.inner != null || passes(g, joined);
                        any = any || passes;
                        rows.top = passes ? rows.top : joined;
                    }
                }
                if (!any) {
                    rows.pushCopy(a);
                    rows.spend(1);
                }
            }
            rows.close(end, from);
        }

        private void minus(Node part, int from) {
            int middle = rows.top;
            bag(part.inner, true);
            int to = from;
            for (int a = from; a < middle; a++) {
                boolean goes = false;
                for (int b = middle; b < rows.top && !goes; b++) {
                    goes = rows.fit(a, b) && rows.share(a, b);
                }
                if (!goes) {
                    rows.move(a, to);
                    to++;
                }
            }
            rows.top = to;
        }

        private void table(Node part, int from) {
            int middle = rows.top;
            for (Node given = part.first; given != null; given = given.next) {
                int row = rows.push();
                for (int i = 0; i < part.size; i++) {
                    rows.set(row, part.listed(i), given.listed(i));
                }
            }
            rows.join(from, middle);
        }

        /** The id of a value that is kept, 0 of an ERROR; those without a number are counted. */
        private int keep(Value v) {
            if (v.kind == 0) {
                return 0;
            }
            int id = terms.intern(v);
            if (id == 0) {
                rows.over = true;
            }
            if (id > MAX_TERMS && terms.mark(id)) {
                termsMade++;
                if (v.kind == NAME || v.kind == TEXT || v.kind == TAGGED || v.kind == TYPED) {
                    bytesMade += v.length + v.extraLength;
                }
                rows.over = rows.over || termsMade > MAX_TERMS_MADE || bytesMade > MAX_BYTES_MADE;
            }
            return id;
        }

        // SELECT.

        /** Puts what a SELECT gives at base, the end of all rows. */
        private void select(Node s, int base) {
            rows.spend(6);
            bag(s.inner, true);
            if (s.grouped) {
                sets(s, base);
            } else {
                for (int r = base; r < rows.top && !rows.over; r++) {
                    finish(s, r);
                }
            }
            if (rows.over) {
                return;
            }
            int keys = 0;
            rows.compareNone();
            for (Node c = s.first; c != null; c = c.next) {
                if (c.kind == KEY) {
                    rows.compareBy(rows.variables + keys, c.negated);
                    keys++;
                }
            }
            compareColumns(s);
            rows.sort(base, rows.top);
            project(s, base);
            slice(s, base);
        }

        private void compareColumns(Node s) {
            for (int i = 0; i < s.size; i++) {
                rows.compareBy(s.listed(i), false);
            }
        }

        /** Gives a row its items with AS, in order, and then its keys. */
        private void finish(Node s, int row) {
            int keys = 0;
            for (Node c = s.first; c != null; c = c.next) {
                if (c.kind == ITEM && c.start != null) {
                    rows.set(row, c.variable, keep(expressions.worth(c, row)));
                } else if (c.kind == KEY) {
                    rows.set(row, rows.variables + keys, keep(expressions.worth(c, row)));
                    keys++;
                }
            }
        }

        /** Makes of the rows from base on sets, and of each set a row. */
        private void sets(Node s, int base) {
            boolean one = true;
            for (Node c = s.first; c != null; c = c.next) {
                if (c.kind == GROUP_ITEM) {
                    one = false;
                    for (int r = base; r < rows.top && c.start != null && !rows.over; r++) {
                        rows.set(r, c.variable, keep(expressions.worth(c, r)));
                    }
                }
            }
            compareSets(s);
            if (!one) {
                rows.sort(base, rows.top);
            }
            int end = rows.top;
            int from = base;
            boolean more = one || from < end;
            for (int i = 0; i <= MAX_ROWS && more && !rows.over; i++) {
                int to = one ? end : from + 1;
                compareSets(s);
                while (to < end && rows.areAlike(from, to)) {
                    to++;
                }
                set(s, from, to);
                from = to;
                more = from < end;
            }
            rows.close(end, base);
        }

        private void compareSets(Node s) {
            rows.compareNone();
            for (Node c = s.first; c != null; c = c.next) {
                if (c.kind == GROUP_ITEM) {
                    rows.compareBy(c.variable, false);
                }
            }
        }

        private void set(Node s, int from, int to) {
            int fromWas = expressions.setFrom;
            int toWas = expressions.setTo;
            expressions.setFrom = from;
            expressions.setTo = to;
            int row = rows.push();
            rows.spend(1);
            boolean kept = true;
            for (Node c = s.first; c != null; c = c.next) {
                if (c.kind == GROUP_ITEM) {
                    rows.set(row, c.variable, rows.get(from, c.variable));
                } else if (c.kind == HAVING) {
                    kept = expressions.holds(c, row);
                }
            }
            if (kept) {
                finish(s, row);
            } else {
                rows.top = row;
            }
            expressions.setFrom = fromWas;
            expressions.setTo = toWas;
        }

        /** Each row keeps its columns alone; of those that are the same the first one stays, if DISTINCT. */
        private void project(Node s, int base) {
            rows.compareNone();
            compareColumns(s);
            if (s.distinct) {
                rows.beginSeen(rows.top - base);
            }
            int to = base;
            for (int r = base; r < rows.top; r++) {
                for (int v = 0; v < rows.variables + MAX_KEYS; v++) {
                    if (v >= rows.variables || !s.lists(v)) {
                        rows.set(r, v, 0);
                    }
                }
                rows.move(r, to);
                if (!s.distinct || rows.isNew(to)) {
                    to++;
                }
            }
            rows.top = to;
        }

        private void slice(Node s, int base) {
            int skip = 0;
            int stay = PLENTY;
            for (Node c = s.first; c != null; c = c.next) {
                skip = c.kind == OFFSET ? c.count : skip;
                stay = c.kind == LIMIT ? c.count : stay;
            }
            rows.close(base + Math.min(skip, rows.top - base), base);
            rows.top = base + Math.min(stay, rows.top - base);
        }
    }
}
