/**
 * Tenses on a line: clauses told by tenses and links, and plain sayings of what was ahead of what;
 * what they make sure, what they leave open, and which of them can't all be so.
 *
 * All rows are made with the object and used again: no call makes an object.
 */
public final class TenseLines {
    public static final int BAD = -1, STATE = -2, FULL = -3, NONE = -9;

    private static final int MOST_CLAUSES = 8;
    private static final int MOST_SAYINGS = 6;
    private static final int MOST_STATEMENTS = MOST_CLAUSES + MOST_SAYINGS;
    private static final int MOST_TIMES = 1 + 2 * MOST_CLAUSES;
    private static final int MOST_LETTERS = 80;
    private static final int MOST_SEEN = 6;
    private static final int MOST_UNDONE = 10;
    private static final int IMAGES = 2;

    private static final int NOW = 0;

    // One numbering serves signs (the first two), answers (all three) and links (3 tells nothing).
    private static final int AHEAD = 0;
    private static final int AT_ONCE = 1;
    private static final int BEHIND = 2;

    private static final int SURELY_NOTHING = 0;
    private static final int SURELY_AHEAD = 1;
    private static final int SURELY_AT_ONCE = 2;
    private static final int SURELY_BEHIND = 3;
    private static final int NOT_SOUND = 4;

    private static final int SO_ANYWAY = 0;
    private static final int SAYS_MORE = 1;
    private static final int BREAKS = 2;

    private static final String TENSE_LETTERS = "dhwpvgfu";
    private static final String LINK_LETTERS = "+=-/";
    private static final String SIGN_LETTERS = "<=";
    private static final int TENSES = 8;
    private static final int LINKS = 4;
    private static final int SIGNS = 2;
    private static final int ANSWERS = 3;

    private static final int[] EVENT_TO_LOOK = {
        AT_ONCE, AHEAD, BEHIND, AT_ONCE, AHEAD, BEHIND, AT_ONCE, AHEAD
    };
    private static final int[] LOOK_TO_NOW = {
        AHEAD, AHEAD, AHEAD, AT_ONCE, AT_ONCE, AT_ONCE, BEHIND, BEHIND
    };

    private final Telling telling;
    private final Telling draft;
    private final Text text;
    private final Past past;
    private final Images images;
    private final Seen seen;
    private final Order order;
    private final Search search;
    private final Tally tally;

    public TenseLines() {
        telling = new Telling();
        draft = new Telling();
        text = new Text();
        past = new Past();
        images = new Images();
        seen = new Seen();
        order = new Order();
        search = new Search();
        tally = new Tally();
    }

    // ---- what is told

    public int type(int letter) {
        if (letter < 0 || letter > 255) {
            return BAD;
        }
        return text.append(letter) ? text.size() : FULL;
    }

    public int clear() {
        int had = text.size();
        text.empty();
        return had;
    }

    public int reads() {
        int fault = text.readInto(draft);
        if (fault != NONE) {
            return -10 - fault;
        }
        telling.become(draft);
        text.empty();
        seen.empty();
        past.lose();
        images.lose();
        return telling.statements();
    }

    public int clause(int c, int what) {
        if (!isClause(c) || what < 0 || what > 2) {
            return BAD;
        }
        if (what == 0) {
            return telling.tenseOf(c);
        }
        return what == 1 ? telling.linkOf(c) : telling.placeOf(c);
    }

    public int statement(int k, int what) {
        if (!isStatement(k) || what < 0 || what > 3) {
            return BAD;
        }
        switch (what) {
            case 0:
                return telling.clauseAt(k);
            case 1:
                return telling.firstAt(k);
            case 2:
                return telling.signAt(k);
            default:
                return telling.secondAt(k);
        }
    }

    // ---- what is done

    public int says(int p, int sign, int q) {
        if (!canBeSaid(p, sign, q)) {
            return BAD;
        }
        if (telling.sayings() >= MOST_SAYINGS) {
            return FULL;
        }
        past.note(telling);
        telling.addSaying(p, sign, q);
        return telling.statements();
    }

    public int takes(int k) {
        if (!isStatement(k) || telling.clauseAt(k) != NONE) {
            return BAD;
        }
        past.note(telling);
        telling.removeSaying(k);
        return telling.statements();
    }

    public int tenses(int c, int tense) {
        if (!isClause(c) || tense < 0 || tense >= TENSES) {
            return BAD;
        }
        int was = telling.tenseOf(c);
        if (was == tense) {
            return STATE;
        }
        past.note(telling);
        telling.setTense(c, tense);
        return was;
    }

    public int links(int c, int link) {
        if (!isClause(c) || c == 0 || link < 0 || link >= LINKS) {
            return BAD;
        }
        int was = telling.linkOf(c);
        if (was == link) {
            return STATE;
        }
        past.note(telling);
        telling.setLink(c, link);
        return was;
    }

    public int undo() {
        if (past.size() == 0) {
            return STATE;
        }
        past.restore(telling);
        return past.size();
    }

    // ---- what is known

    public int sound() {
        orderAll();
        return order.isSound() ? 1 : 0;
    }

    public int clash(int what) {
        if (what < 0 || what > 1) {
            return BAD;
        }
        int set = search.fewest(telling);
        if (set == 0) {
            return NONE;
        }
        return what == 0 ? set : Integer.bitCount(set);
    }

    public int known(int p, int q) {
        if (!isTime(p) || !isTime(q)) {
            return BAD;
        }
        orderAll();
        return order.tells(p, q);
    }

    public int line(int p) {
        if (!isTime(p)) {
            return BAD;
        }
        orderAll();
        return order.isSound() ? order.earliest(p) : NONE;
    }

    public int would(int p, int sign, int q) {
        if (!canBeSaid(p, sign, q)) {
            return BAD;
        }
        orderAll();
        int tells = order.tells(p, q);
        if (tells == NOT_SOUND) {
            return NOT_SOUND;
        }
        if (tells == SURELY_NOTHING) {
            return SAYS_MORE;
        }
        int same = sign == AHEAD ? SURELY_AHEAD : SURELY_AT_ONCE;
        return tells == same ? SO_ANYWAY : BREAKS;
    }

    public int orders() {
        tallyAll();
        return tally.all();
    }

    public int left(int a, int b, int answer) {
        if (!isClause(a) || !isClause(b) || a == b || answer < 0 || answer >= ANSWERS) {
            return BAD;
        }
        tallyAll();
        tally.compare();
        return tally.remaining(a, answer, b);
    }

    public int best(int what) {
        if (what < 0 || what > 2) {
            return BAD;
        }
        tallyAll();
        tally.compare();
        int bestA = NONE;
        int bestB = NONE;
        int least = NONE;
        for (int a = 0; a < telling.clauses(); a++) {
            for (int b = a + 1; b < telling.clauses(); b++) {
                if (order.tells(eventOf(a), eventOf(b)) != SURELY_NOTHING) {
                    continue;
                }
                int worst = tally.worst(a, b);
                if (least == NONE || worst < least) {
                    bestA = a;
                    bestB = b;
                    least = worst;
                }
            }
        }
        if (what == 0) {
            return bestA;
        }
        return what == 1 ? bestB : least;
    }

    // ---- which statement is wrong

    public int sees(int p, int q, int r) {
        if (!isTime(p) || !isTime(q) || r < 0 || r > NOT_SOUND) {
            return BAD;
        }
        return seen.add(p, q, r) ? seen.size() : FULL;
    }

    public int forget() {
        int had = seen.size();
        seen.empty();
        return had;
    }

    public int unseen() {
        int bits = 0;
        for (int k = 0; k < telling.statements(); k++) {
            orderSet(telling.everything() & ~(1 << k));
            if (seen.isSoBy(order)) {
                bits |= 1 << k;
            }
        }
        return bits;
    }

    // ---- images

    public int keep(int image) {
        if (image < 0 || image >= IMAGES) {
            return BAD;
        }
        images.store(image, telling);
        return telling.statements();
    }

    public int back(int image) {
        if (image < 0 || image >= IMAGES) {
            return BAD;
        }
        if (!images.isKept(image)) {
            return STATE;
        }
        images.restore(image, telling);
        past.lose();
        return telling.statements();
    }

    public int count(int what) {
        switch (what) {
            case 0:
                return telling.clauses();
            case 1:
                return telling.sayings();
            case 2:
                return telling.statements();
            case 3:
                return seen.size();
            case 4:
                return text.size();
            case 5:
                return past.size();
            default:
                return BAD;
        }
    }

    // ---- helpers

    private boolean isClause(int c) {
        return c >= 0 && c < telling.clauses();
    }

    private boolean isStatement(int k) {
        return k >= 0 && k < telling.statements();
    }

    private boolean isTime(int p) {
        return p >= 0 && p <= 2 * telling.clauses();
    }

    private boolean isNowOrEvent(int p) {
        return isTime(p) && p % 2 == 0;
    }

    private boolean canBeSaid(int p, int sign, int q) {
        return isNowOrEvent(p) && isNowOrEvent(q) && p != q && sign >= 0 && sign < SIGNS;
    }

    private void orderAll() {
        orderSet(telling.everything());
    }

    private void orderSet(int set) {
        order.empty();
        for (int k = 0; k < telling.statements(); k++) {
            if (has(set, k)) {
                telling.tellOne(k, order);
            }
        }
    }

    private void tallyAll() {
        orderSet(telling.everything());
        tally.fill(order, telling.clauses());
    }

    private static int lookOf(int c) {
        return 1 + 2 * c;
    }

    private static int eventOf(int c) {
        return 2 + 2 * c;
    }

    private static boolean has(int set, int bit) {
        return (set >> bit & 1) == 1;
    }

    /** All STATEMENTS as one row of numbers, so that images and what can be undone are plain copies. */
    private static final class Telling {
        private static final int CLAUSE_COUNT = 0;
        private static final int STATEMENT_COUNT = 1;
        private static final int TENSE = 2;
        private static final int LINK = TENSE + MOST_CLAUSES;
        private static final int CLAUSE = LINK + MOST_CLAUSES;
        private static final int FIRST = CLAUSE + MOST_STATEMENTS;
        private static final int SIGN = FIRST + MOST_STATEMENTS;
        private static final int SECOND = SIGN + MOST_STATEMENTS;
        static final int CELLS = SECOND + MOST_STATEMENTS;

        private final int[] cells;

        Telling() {
            cells = new int[CELLS];
        }

        void empty() {
            cells[CLAUSE_COUNT] = 0;
            cells[STATEMENT_COUNT] = 0;
        }

        void become(Telling other) {
            copyRow(other.cells, cells);
        }

        void copyFrom(int[] row) {
            copyRow(row, cells);
        }

        void copyTo(int[] row) {
            copyRow(cells, row);
        }

        private static void copyRow(int[] from, int[] to) {
            for (int i = 0; i < CELLS && i < from.length && i < to.length; i++) {
                to[i] = from[i];
            }
        }

        int clauses() {
            return cells[CLAUSE_COUNT];
        }

        int statements() {
            return cells[STATEMENT_COUNT];
        }

        int sayings() {
            return statements() - clauses();
        }

        int everything() {
            return (1 << statements()) - 1;
        }

        int tenseOf(int c) {
            return clauseCell(TENSE, c);
        }

        int linkOf(int c) {
            return clauseCell(LINK, c);
        }

        int placeOf(int c) {
            for (int k = 0; k < statements(); k++) {
                if (clauseAt(k) == c) {
                    return k;
                }
            }
            return NONE;
        }

        int clauseAt(int k) {
            return statementCell(CLAUSE, k);
        }

        int firstAt(int k) {
            return statementCell(FIRST, k);
        }

        int signAt(int k) {
            return statementCell(SIGN, k);
        }

        int secondAt(int k) {
            return statementCell(SECOND, k);
        }

        private int clauseCell(int row, int c) {
            return c >= 0 && c < MOST_CLAUSES ? cells[row + c] : NONE;
        }

        private int statementCell(int row, int k) {
            return k >= 0 && k < MOST_STATEMENTS ? cells[row + k] : NONE;
        }

        void setTense(int c, int tense) {
            if (c >= 0 && c < MOST_CLAUSES) {
                cells[TENSE + c] = tense;
            }
        }

        void setLink(int c, int link) {
            if (c >= 0 && c < MOST_CLAUSES) {
                cells[LINK + c] = link;
            }
        }

        void addClause(int tense, int link) {
            int c = clauses();
            if (c >= MOST_CLAUSES) {
                return;
            }
            setTense(c, tense);
            setLink(c, link);
            cells[CLAUSE_COUNT] = c + 1;
            addStatement(c, NONE, NONE, NONE);
        }

        void addSaying(int first, int sign, int second) {
            addStatement(NONE, first, sign, second);
        }

        private void addStatement(int clause, int first, int sign, int second) {
            int k = statements();
            if (k < 0 || k >= MOST_STATEMENTS) {
                return;
            }
            cells[CLAUSE + k] = clause;
            cells[FIRST + k] = first;
            cells[SIGN + k] = sign;
            cells[SECOND + k] = second;
            cells[STATEMENT_COUNT] = k + 1;
        }

        void removeSaying(int k) {
            if (k < 0 || k >= statements()) {
                return;
            }
            for (int i = k; i + 1 < MOST_STATEMENTS; i++) {
                cells[CLAUSE + i] = cells[CLAUSE + i + 1];
                cells[FIRST + i] = cells[FIRST + i + 1];
                cells[SIGN + i] = cells[SIGN + i + 1];
                cells[SECOND + i] = cells[SECOND + i + 1];
            }
            cells[STATEMENT_COUNT] = statements() - 1;
        }

        void tellOne(int k, Order order) {
            int c = clauseAt(k);
            if (c == NONE) {
                order.relate(firstAt(k), signAt(k), secondAt(k));
                return;
            }
            int tense = tenseOf(c);
            if (tense < 0 || tense >= TENSES) {
                return;
            }
            order.relate(eventOf(c), EVENT_TO_LOOK[tense], lookOf(c));
            order.relate(lookOf(c), LOOK_TO_NOW[tense], NOW);
            if (c > 0) {
                order.relate(lookOf(c - 1), linkOf(c), lookOf(c));
            }
        }
    }

    /** THE TEXT, and what it tells. */
    private static final class Text {
        private static final int ITEM_DUE = 0;
        private static final int TENSE_DUE = 1;
        private static final int SIGN_DUE = 2;
        private static final int SECOND_DUE = 3;
        private static final int CLAUSE_END_DUE = 4;
        private static final int SAYING_END_DUE = 5;

        private final int[] letters;
        private int length;
        private int due;
        private int link;
        private int tense;
        private int first;
        private int sign;
        private int second;

        Text() {
            letters = new int[MOST_LETTERS];
        }

        int size() {
            return length;
        }

        void empty() {
            length = 0;
        }

        boolean append(int letter) {
            if (length < 0 || length >= letters.length) {
                return false;
            }
            letters[length] = letter;
            length++;
            return true;
        }

        /** Fills the draft; answers the FAULT, or NONE. */
        int readInto(Telling draft) {
            draft.empty();
            due = ITEM_DUE;
            for (int i = 0; i < length && i < letters.length; i++) {
                if (letters[i] != ' ' && !passes(letters[i], draft)) {
                    return i;
                }
            }
            return due == ITEM_DUE ? NONE : length;
        }

        private boolean passes(int letter, Telling draft) {
            switch (due) {
                case ITEM_DUE:
                    return beginsItem(letter, draft);
                case TENSE_DUE:
                    return givesTense(letter);
                case SIGN_DUE:
                    return givesSign(letter);
                case SECOND_DUE:
                    return givesSecond(letter, draft);
                default:
                    return endsItem(letter, draft);
            }
        }

        private boolean beginsItem(int letter, Telling draft) {
            if (beginsSaying(letter, draft)) {
                return true;
            }
            if (draft.clauses() == 0) {
                link = NONE;
                return givesTense(letter);
            }
            link = LINK_LETTERS.indexOf((char) letter);
            due = TENSE_DUE;
            return link >= 0 && draft.clauses() < MOST_CLAUSES;
        }

        private boolean beginsSaying(int letter, Telling draft) {
            first = timeOf(letter, draft);
            due = SIGN_DUE;
            return first != NONE && draft.sayings() < MOST_SAYINGS;
        }

        private boolean givesTense(int letter) {
            tense = TENSE_LETTERS.indexOf((char) letter);
            due = CLAUSE_END_DUE;
            return tense >= 0;
        }

        private boolean givesSign(int letter) {
            sign = SIGN_LETTERS.indexOf((char) letter);
            due = SECOND_DUE;
            return sign >= 0;
        }

        private boolean givesSecond(int letter, Telling draft) {
            second = timeOf(letter, draft);
            due = SAYING_END_DUE;
            return second != NONE && second != first;
        }

        private boolean endsItem(int letter, Telling draft) {
            if (letter != ';') {
                return false;
            }
            if (due == CLAUSE_END_DUE) {
                draft.addClause(tense, link);
            } else {
                draft.addSaying(first, sign, second);
            }
            due = ITEM_DUE;
            return true;
        }

        private static int timeOf(int letter, Telling draft) {
            if (letter == 'N') {
                return NOW;
            }
            int c = letter - 'A';
            return c >= 0 && c < draft.clauses() ? eventOf(c) : NONE;
        }
    }

    /** What can be UNDONE: a ring of rows, the oldest of which is written over. */
    private static final class Past {
        private final int[][] rows;
        private int next;
        private int size;

        Past() {
            rows = new int[MOST_UNDONE][Telling.CELLS];
        }

        int size() {
            return size;
        }

        void lose() {
            size = 0;
        }

        void note(Telling telling) {
            if (next < 0 || next >= rows.length) {
                return;
            }
            telling.copyTo(rows[next]);
            next = next + 1 < rows.length ? next + 1 : 0;
            size = Math.min(size + 1, rows.length);
        }

        void restore(Telling telling) {
            int last = next > 0 ? next - 1 : rows.length - 1;
            if (size <= 0 || last >= rows.length) {
                return;
            }
            telling.copyFrom(rows[last]);
            next = last;
            size--;
        }
    }

    /** IMAGES of all STATEMENTS. */
    private static final class Images {
        private final int[][] rows;
        private int kept;

        Images() {
            rows = new int[IMAGES][Telling.CELLS];
        }

        void lose() {
            kept = 0;
        }

        boolean isKept(int image) {
            return has(kept, image);
        }

        void store(int image, Telling telling) {
            if (image >= 0 && image < rows.length) {
                telling.copyTo(rows[image]);
                kept |= 1 << image;
            }
        }

        void restore(int image, Telling telling) {
            if (image >= 0 && image < rows.length) {
                telling.copyFrom(rows[image]);
            }
        }
    }

    /** What was SEEN. */
    private static final class Seen {
        private final int[] first;
        private final int[] second;
        private final int[] answer;
        private int size;

        Seen() {
            first = new int[MOST_SEEN];
            second = new int[MOST_SEEN];
            answer = new int[MOST_SEEN];
        }

        int size() {
            return size;
        }

        void empty() {
            size = 0;
        }

        boolean add(int p, int q, int r) {
            if (size < 0 || size >= MOST_SEEN) {
                return false;
            }
            first[size] = p;
            second[size] = q;
            answer[size] = r;
            size++;
            return true;
        }

        boolean isSoBy(Order order) {
            for (int i = 0; i < size && i < MOST_SEEN; i++) {
                if (order.tells(first[i], second[i]) != answer[i]) {
                    return false;
                }
            }
            return true;
        }
    }

    /**
     * What relations between TIMES make sure, closed over all chains while they are told.
     * Only "ahead" and "at once" are ever told, so whatever no chain makes sure is open.
     */
    private static final class Order {
        // notBehind[p] has the TIMES that p is ahead of or at once with, p among them;
        // ahead[p] those that it is ahead of: p among them tells that a chain bites its tail.
        private final int[] notBehind;
        private final int[] ahead;

        Order() {
            notBehind = new int[MOST_TIMES];
            ahead = new int[MOST_TIMES];
        }

        void empty() {
            for (int p = 0; p < MOST_TIMES; p++) {
                notBehind[p] = 1 << p;
                ahead[p] = 0;
            }
        }

        void relate(int p, int relation, int q) {
            if (!isWithin(p) || !isWithin(q)) {
                return;
            }
            if (relation == AHEAD) {
                chain(p, q, notBehind[q]);
            } else if (relation == BEHIND) {
                chain(q, p, notBehind[p]);
            } else if (relation == AT_ONCE) {
                chain(p, q, ahead[q]);
                chain(q, p, ahead[p]);
            }
        }

        private void chain(int p, int q, int aheadByThis) {
            if (!isWithin(p) || !isWithin(q)) {
                return;
            }
            int reached = notBehind[q];
            for (int x = 0; x < MOST_TIMES; x++) {
                if (has(notBehind[x], p)) {
                    ahead[x] |= has(ahead[x], p) ? reached : aheadByThis;
                    notBehind[x] |= reached;
                }
            }
        }

        boolean isSound() {
            for (int p = 0; p < MOST_TIMES; p++) {
                if (has(ahead[p], p)) {
                    return false;
                }
            }
            return true;
        }

        /** KNOWN of two TIMES. */
        int tells(int p, int q) {
            if (!isSound()) {
                return NOT_SOUND;
            }
            if (isAhead(p, q)) {
                return SURELY_AHEAD;
            }
            if (isAhead(q, p)) {
                return SURELY_BEHIND;
            }
            return isWithin(p) && has(notBehind[p], q) ? SURELY_AT_ONCE : SURELY_NOTHING;
        }

        boolean isAhead(int p, int q) {
            return isWithin(p) && has(ahead[p], q);
        }

        /** Takes away, again and again, the TIMES that none of the rest is ahead of. */
        int earliest(int p) {
            int rest = (1 << MOST_TIMES) - 1;
            for (int number = 0; number < MOST_TIMES; number++) {
                rest &= behindSome(rest);
                if (!has(rest, p)) {
                    return number;
                }
            }
            return NONE;
        }

        private int behindSome(int set) {
            int behind = 0;
            for (int x = 0; x < MOST_TIMES; x++) {
                if (has(set, x)) {
                    behind |= ahead[x];
                }
            }
            return behind;
        }

        int aheadRow(int p) {
            return isWithin(p) ? ahead[p] : 0;
        }

        int notBehindRow(int p) {
            return isWithin(p) ? notBehind[p] : 0;
        }

        private static boolean isWithin(int p) {
            return p >= 0 && p < MOST_TIMES;
        }
    }

    /**
     * Looks for the CLASH. All that a CLAUSE's STATEMENT tells has its LOOK as one end, so a ring of
     * relations that bites its tail goes through each STATEMENT once, by relations next to each other.
     * One step per STATEMENT is therefore enough, and the shortest ring has the fewest STATEMENTS.
     */
    private static final class Search {
        private final Order alone;
        private final int[][] notBehindBy;
        private final int[][] aheadBy;
        private final int[] notBehind;
        private final int[] ahead;

        Search() {
            alone = new Order();
            notBehindBy = new int[MOST_STATEMENTS][MOST_TIMES];
            aheadBy = new int[MOST_STATEMENTS][MOST_TIMES];
            notBehind = new int[MOST_TIMES];
            ahead = new int[MOST_TIMES];
        }

        /** The CLASH as bits; 0: there is none. */
        int fewest(Telling telling) {
            int statements = Math.min(telling.statements(), MOST_STATEMENTS);
            noteSteps(telling, statements);
            int set = telling.everything();
            int size = shortestRing(set, statements);
            if (size == 0) {
                return 0;
            }
            // Leaving out the highest that can be spared makes the bits the least.
            for (int k = statements - 1; k >= 0; k--) {
                int without = set & ~(1 << k);
                if (shortestRing(without, size) != 0) {
                    set = without;
                }
            }
            return set;
        }

        private void noteSteps(Telling telling, int statements) {
            for (int k = 0; k < statements && k < MOST_STATEMENTS; k++) {
                alone.empty();
                telling.tellOne(k, alone);
                for (int p = 0; p < MOST_TIMES; p++) {
                    notBehindBy[k][p] = alone.notBehindRow(p);
                    aheadBy[k][p] = alone.aheadRow(p);
                }
            }
        }

        /** How many steps; 0: more than told, or there is no ring. */
        private int shortestRing(int set, int most) {
            joinSteps(set);
            int shortest = 0;
            int bound = most;
            for (int p = 0; p < MOST_TIMES; p++) {
                int steps = stepsBackTo(p, bound);
                if (steps != 0) {
                    shortest = steps;
                    bound = steps - 1;
                }
            }
            return shortest;
        }

        private void joinSteps(int set) {
            for (int p = 0; p < MOST_TIMES; p++) {
                notBehind[p] = 1 << p;
                ahead[p] = 0;
                for (int k = 0; k < MOST_STATEMENTS; k++) {
                    if (has(set, k)) {
                        notBehind[p] |= notBehindBy[k][p];
                        ahead[p] |= aheadBy[k][p];
                    }
                }
            }
        }

        private int stepsBackTo(int start, int bound) {
            int reached = 1 << start;
            int reachedAhead = 0;
            for (int step = 1; step <= bound; step++) {
                int next = 0;
                int nextAhead = 0;
                for (int p = 0; p < MOST_TIMES; p++) {
                    if (has(reached, p)) {
                        next |= notBehind[p];
                        nextAhead |= has(reachedAhead, p) ? notBehind[p] : ahead[p];
                    }
                }
                if (has(nextAhead, start)) {
                    return step;
                }
                reached = next;
                reachedAhead = nextAhead;
            }
            return 0;
        }
    }

    /**
     * Counts ORDERS, and for any two EVENTS those in which one is ahead of the other.
     * EVENTS surely at once go as one, the lowest of them; then each next group of a row can be
     * any of those that all surely ahead of them have gone already.
     */
    private static final class Tally {
        private static final int SETS = 1 << MOST_CLAUSES;

        private final int[] lowest;
        private final int[] before;
        private final int[] waysTo;
        private final int[] waysOn;
        private final int[] joining;
        private final int[][] ahead;
        private int together;
        private int total;

        Tally() {
            lowest = new int[MOST_CLAUSES];
            before = new int[MOST_CLAUSES];
            waysTo = new int[SETS];
            waysOn = new int[SETS];
            joining = new int[MOST_CLAUSES];
            ahead = new int[MOST_CLAUSES][MOST_CLAUSES];
        }

        int all() {
            return total;
        }

        int remaining(int a, int answer, int b) {
            if (!isWithin(a) || !isWithin(b)) {
                return 0;
            }
            int low = lowest[a];
            int other = lowest[b];
            if (!isWithin(low) || !isWithin(other)) {
                return 0;
            }
            if (answer == AHEAD) {
                return ahead[low][other];
            }
            if (answer == BEHIND) {
                return ahead[other][low];
            }
            return total - ahead[low][other] - ahead[other][low];
        }

        int worst(int a, int b) {
            int unlike = Math.max(remaining(a, AHEAD, b), remaining(a, BEHIND, b));
            return Math.max(unlike, remaining(a, AT_ONCE, b));
        }

        void fill(Order order, int clauses) {
            empty();
            if (!order.isSound()) {
                return;
            }
            for (int c = 0; c < clauses && c < MOST_CLAUSES; c++) {
                putTogether(order, c);
            }
            for (int c = 0; c < clauses && c < MOST_CLAUSES; c++) {
                noteBefore(order, c);
            }
            countOn();
            total = waysOn[0];
        }

        private void empty() {
            together = 0;
            total = 0;
            for (int i = 0; i < SETS; i++) {
                waysTo[i] = 0;
                waysOn[i] = 0;
            }
            for (int c = 0; c < MOST_CLAUSES; c++) {
                lowest[c] = c;
                before[c] = 0;
                for (int d = 0; d < MOST_CLAUSES; d++) {
                    ahead[c][d] = 0;
                }
            }
        }

        private void putTogether(Order order, int c) {
            if (!isWithin(c)) {
                return;
            }
            for (int d = c - 1; d >= 0; d--) {
                if (order.tells(eventOf(d), eventOf(c)) == SURELY_AT_ONCE) {
                    lowest[c] = d;
                }
            }
            together |= 1 << lowest[c];
        }

        private void noteBefore(Order order, int c) {
            if (!isWithin(c)) {
                return;
            }
            for (int d = 0; d < MOST_CLAUSES; d++) {
                if (has(together, d) && order.isAhead(eventOf(d), eventOf(c))) {
                    before[c] |= 1 << d;
                }
            }
        }

        private int ready(int gone) {
            int bits = 0;
            for (int c = 0; c < MOST_CLAUSES; c++) {
                if (has(together & ~gone, c) && (before[c] & ~gone) == 0) {
                    bits |= 1 << c;
                }
            }
            return bits;
        }

        /** In how many ways the rest can come behind each set. */
        private void countOn() {
            for (int gone = SETS - 1; gone >= 0; gone--) {
                if ((gone & ~together) != 0) {
                    continue;
                }
                int ready = ready(gone);
                int ways = gone == together ? 1 : 0;
                for (int group = ready; group > 0; group = (group - 1) & ready) {
                    ways += waysOn[(gone | group) & (SETS - 1)];
                }
                waysOn[gone] = ways;
            }
        }

        /** In how many ORDERS one EVENT joins a row in which another has gone already. */
        void compare() {
            waysTo[0] = total == 0 ? 0 : 1;
            for (int gone = 0; gone < SETS; gone++) {
                if (waysTo[gone] == 0) {
                    continue;
                }
                int ready = ready(gone);
                for (int c = 0; c < MOST_CLAUSES; c++) {
                    joining[c] = 0;
                }
                for (int group = ready; group > 0; group = (group - 1) & ready) {
                    int grown = (gone | group) & (SETS - 1);
                    waysTo[grown] += waysTo[gone];
                    noteJoining(group, waysTo[gone] * waysOn[grown]);
                }
                noteAhead(gone);
            }
        }

        private void noteJoining(int group, int ways) {
            for (int c = 0; c < MOST_CLAUSES; c++) {
                if (has(group, c)) {
                    joining[c] += ways;
                }
            }
        }

        private void noteAhead(int gone) {
            for (int c = 0; c < MOST_CLAUSES; c++) {
                if (has(gone, c)) {
                    for (int d = 0; d < MOST_CLAUSES; d++) {
                        ahead[c][d] += joining[d];
                    }
                }
            }
        }

        private static boolean isWithin(int c) {
            return c >= 0 && c < MOST_CLAUSES;
        }
    }
}
