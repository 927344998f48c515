/**
 * "Refused, and nothing changes, the first of these that is so: BAD (a number is not as told, or there
 * is no such thing), STATE (as told), FULL. What is asked changes nothing."
 * Each call that can be refused, from each Start: every number just beside what is allowed, the least
 * and the greatest int, and those that would wrap back; the answer, and that nothing has changed.
 */
public final class RefusedTest extends Checks {
    private static void refused(String what, Start start, Twins.Call call, int want) {
        Twins.refused(start + ": " + what, start::make, call, want);
    }

    private static void asked(String what, Start start, Twins.Call call) {
        Twins.changesNothing(start + ": asking " + what, start::make, call);
    }

    private static void startsHaveWhatTheyTell() {
        for (Start start : Start.values()) {
            TenseLines x = start.make();
            int[] want = {start.clauses, start.sayings, start.statements, start.seen, start.letters, start.undone};
            for (int what = 0; what < want.length; what++) {
                due(start + ": count(" + what + ")", x.count(what), want[what]);
            }
            due(start + ": sound", x.sound(), start == Start.UNSOUND ? 0 : 1);
        }
    }

    // ---- what is told

    /** "A letter (0 .. 255) comes to THE TEXT .. BAD": ahead of FULL, too (from WHOLE). */
    private static void type(Start start) {
        for (int letter : outside(0, 255)) {
            refused("type(" + letter + ")", start, x -> x.type(letter), BAD);
        }
    }

    /** "FULL: 80." */
    private static void typeIsFull() {
        for (int letter : new int[] {0, ' ', ';', 'd', 255}) {
            refused("type(" + letter + ")", Start.WHOLE, x -> x.type(letter), FULL);
        }
    }

    /** "-10 less FAULT: nothing changes": THE TEXT stays, too. */
    private static void readsWithAFault(Start start) {
        String[] texts = {"x", "d", ";", "d;;", "d; +h", "f;A<A;", "f;A<N", "g;=u;N<B;C", "+d;", "N<A;",
            "d;/d;/d;/d;/d;/d;/d;/d;/d;", "d;A<N;A<N;A<N;A<N;A<N;A<N;A<N;"};
        int[] faults = {0, 1, 0, 2, 5, 4, 5, 9, 0, 2, 23, 26};
        for (int i = 0; i < texts.length; i++) {
            String text = texts[i];
            Twins.Make typed = () -> {
                TenseLines x = start.make();
                x.clear();
                type(x, text);
                return x;
            };
            Twins.refused(start + ": reads() of '" + text + "'", typed, TenseLines::reads, -10 - faults[i]);
        }
    }

    /** "Of a CLAUSE: 0 .., 1 .., 2 .. BAD." */
    private static void clause(Start start) {
        for (int what = 0; what <= 2; what++) {
            for (int c : outside(0, start.clauses - 1)) {
                int asked = what;
                refused("clause(" + c + ", " + what + ")", start, x -> x.clause(c, asked), BAD);
            }
        }
        for (int what : outside(0, 2)) {
            for (int c = 0; c <= start.clauses; c++) {
                int of = c;
                refused("clause(" + c + ", " + what + ")", start, x -> x.clause(of, what), BAD);
            }
        }
    }

    /** "Of a STATEMENT: 0 .., 1 .., 2 .., 3 .. BAD." */
    private static void statement(Start start) {
        for (int what = 0; what <= 3; what++) {
            for (int k : outside(0, start.statements - 1)) {
                int asked = what;
                refused("statement(" + k + ", " + what + ")", start, x -> x.statement(k, asked), BAD);
            }
        }
        for (int what : outside(0, 3)) {
            for (int k = 0; k <= start.statements; k++) {
                int of = k;
                refused("statement(" + k + ", " + what + ")", start, x -> x.statement(of, what), BAD);
            }
        }
    }

    // ---- what is done

    private interface Saying {
        int on(TenseLines x, int p, int sign, int q);
    }

    /** "TIMES (NOW, EVENTS; else BAD) and a sign .. BAD (of one TIME and itself, too)": says() and would(). */
    private static void saying(Start start, String name, Saying saying) {
        for (int p : outside(0, start.lastTime())) {
            badSaying(start, name, saying, p, 0, 0);
            badSaying(start, name, saying, 0, 1, p);
            badSaying(start, name, saying, start.lastTime(), 0, p);
            badSaying(start, name, saying, p, 0, p);
        }
        for (int look = 1; look < start.lastTime(); look += 2) {
            badSaying(start, name, saying, look, 0, 0);
            badSaying(start, name, saying, 0, 1, look);
            badSaying(start, name, saying, look, 1, look + 1);
            badSaying(start, name, saying, start.lastTime(), 0, look);
        }
        for (int p = 0; p <= start.lastTime(); p++) {
            badSaying(start, name, saying, p, 0, p);
            badSaying(start, name, saying, p, 1, p);
        }
        for (int sign : outside(0, 1)) {
            badSaying(start, name, saying, 0, sign, start.lastTime());
            badSaying(start, name, saying, start.lastTime(), sign, 0);
        }
    }

    private static void badSaying(Start start, String name, Saying saying, int p, int sign, int q) {
        refused(name + "(" + p + ", " + sign + ", " + q + ")", start, x -> saying.on(x, p, sign, q), BAD);
    }

    /** "FULL: 6 SAYINGS." */
    private static void saysIsFull() {
        for (int p = 2; p <= Start.WHOLE.lastTime(); p += 2) {
            int event = p;
            refused("says(0, 0, " + p + ")", Start.WHOLE, x -> x.says(0, 0, event), FULL);
            refused("says(" + p + ", 1, 0)", Start.WHOLE, x -> x.says(event, 1, 0), FULL);
        }
    }

    /** "A SAYING is taken .. BAD (a CLAUSE, too)." */
    private static void takes(Start start) {
        for (int k : outside(0, start.statements - 1)) {
            refused("takes(" + k + ")", start, x -> x.takes(k), BAD);
        }
        for (int c = 0; c < start.clauses; c++) {
            int clause = c;
            refused("takes() of CLAUSE " + c, start, x -> x.takes(x.clause(clause, 2)), BAD);
        }
    }

    /** "A CLAUSE's TENSE is another one .. BAD; STATE: it is that." */
    private static void tenses(Start start) {
        for (int c : outside(0, start.clauses - 1)) {
            refused("tenses(" + c + ", 0)", start, x -> x.tenses(c, 0), BAD);
            refused("tenses(" + c + ", 7)", start, x -> x.tenses(c, 7), BAD);
        }
        for (int tense : outside(0, 7)) {
            refused("tenses(0, " + tense + ")", start, x -> x.tenses(0, tense), BAD);
            refused("tenses(last, " + tense + ")", start, x -> x.tenses(start.clauses - 1, tense), BAD);
        }
        for (int c = 0; c < start.clauses; c++) {
            int clause = c;
            refused("tenses(" + c + ") as it is", start, x -> x.tenses(clause, x.clause(clause, 0)), STATE);
        }
    }

    /** "A CLAUSE's LINK is another one .. BAD (of the first one, too); STATE: it is that." */
    private static void links(Start start) {
        for (int c : outside(0, start.clauses - 1)) {
            refused("links(" + c + ", 0)", start, x -> x.links(c, 0), BAD);
            refused("links(" + c + ", 3)", start, x -> x.links(c, 3), BAD);
        }
        for (int link = 0; link <= 3; link++) {
            int told = link;
            refused("links(0, " + link + ")", start, x -> x.links(0, told), BAD);
        }
        refused("links(0, NONE)", start, x -> x.links(0, NONE), BAD);
        for (int link : outside(0, 3)) {
            refused("links(0, " + link + ")", start, x -> x.links(0, link), BAD);
            refused("links(last, " + link + ")", start, x -> x.links(start.clauses - 1, link), BAD);
        }
        for (int c = 1; c < start.clauses; c++) {
            int clause = c;
            refused("links(" + c + ") as it is", start, x -> x.links(clause, x.clause(clause, 1)), STATE);
        }
    }

    /** "STATE: none." */
    private static void undo(Start start) {
        Twins.Make bare = () -> {
            TenseLines x = start.make();
            for (int i = 0; i < start.undone; i++) {
                x.undo();
            }
            return x;
        };
        Twins.refused(start + ": undo() when all is UNDONE", bare, TenseLines::undo, STATE);
    }

    // ---- what is known

    private interface Asked {
        int on(TenseLines x, int what);
    }

    private static void what(Start start, String name, int most, Asked asked) {
        for (int what : outside(0, most)) {
            refused(name + "(" + what + ")", start, x -> asked.on(x, what), BAD);
        }
    }

    /** "KNOWN of two TIMES .. BAD"; "A TIME's number .. BAD." */
    private static void knownAndLine(Start start) {
        for (int p : outside(0, start.lastTime())) {
            refused("known(" + p + ", 0)", start, x -> x.known(p, 0), BAD);
            refused("known(last, " + p + ")", start, x -> x.known(start.lastTime(), p), BAD);
            refused("known(" + p + ", " + p + ")", start, x -> x.known(p, p), BAD);
            refused("line(" + p + ")", start, x -> x.line(p), BAD);
        }
    }

    /** "EVENTS of CLAUSES a, b (unlike) .. (answer 0: .., 1: .., 2: ..). BAD." */
    private static void left(Start start) {
        int last = start.clauses - 1;
        for (int c : outside(0, last)) {
            refused("left(" + c + ", 0, 0)", start, x -> x.left(c, 0, 0), BAD);
            refused("left(" + c + ", last, 1)", start, x -> x.left(c, last, 1), BAD);
            refused("left(0, " + c + ", 2)", start, x -> x.left(0, c, 2), BAD);
            refused("left(last, " + c + ", 0)", start, x -> x.left(last, c, 0), BAD);
        }
        for (int c = 0; c <= last; c++) {
            int clause = c;
            for (int answer = 0; answer <= 2; answer++) {
                int so = answer;
                refused("left(" + c + ", " + c + ", " + answer + ")", start, x -> x.left(clause, clause, so), BAD);
            }
        }
        for (int answer : outside(0, 2)) {
            refused("left(0, last, " + answer + ")", start, x -> x.left(0, last, answer), BAD);
            refused("left(last, 0, " + answer + ")", start, x -> x.left(last, 0, answer), BAD);
        }
    }

    // ---- which statement is wrong, images

    /** "BAD (TIMES that are there, r 0 .. 4)": ahead of FULL, too (from WHOLE). */
    private static void sees(Start start) {
        for (int p : outside(0, start.lastTime())) {
            refused("sees(" + p + ", 0, 0)", start, x -> x.sees(p, 0, 0), BAD);
            refused("sees(last, " + p + ", 4)", start, x -> x.sees(start.lastTime(), p, 4), BAD);
        }
        for (int r : outside(0, 4)) {
            refused("sees(0, last, " + r + ")", start, x -> x.sees(0, start.lastTime(), r), BAD);
        }
    }

    /** "FULL: 6." */
    private static void seesIsFull() {
        for (int r = 0; r <= 4; r++) {
            int answer = r;
            refused("sees(0, 16, " + r + ")", Start.WHOLE, x -> x.sees(0, 16, answer), FULL);
        }
    }

    /** "An IMAGE is kept .. BAD"; "BAD; STATE: none was kept." */
    private static void images(Start start) {
        for (int image : outside(0, 1)) {
            refused("keep(" + image + ")", start, x -> x.keep(image), BAD);
            refused("back(" + image + ")", start, x -> x.back(image), BAD);
        }
        for (int image = 0; image <= 1; image++) {
            int none = image;
            if (!start.isKept(image)) {
                refused("back(" + image + ")", start, x -> x.back(none), STATE);
            }
        }
    }

    // ---- what is asked changes nothing

    private static void askedOfAll(Start start) {
        asked("sound", start, TenseLines::sound);
        asked("orders", start, TenseLines::orders);
        asked("unseen", start, TenseLines::unseen);
        for (int i = 0; i <= 5; i++) {
            int what = i;
            asked("clash " + i, start, x -> x.clash(what));
            asked("best " + i, start, x -> x.best(what));
            asked("count " + i, start, x -> x.count(what));
        }
        for (int k = 0; k < start.statements; k++) {
            askedOfOne(start, k);
        }
        for (int p = 0; p <= start.lastTime(); p++) {
            askedOfTimes(start, p);
        }
    }

    /** Of a CLAUSE or a STATEMENT of this number. */
    private static void askedOfOne(Start start, int k) {
        asked("statement " + k, start, x -> {
            for (int what = 0; what <= 3; what++) {
                x.statement(k, what);
                x.clause(k, what);
            }
            return 0;
        });
        asked("left " + k, start, x -> {
            for (int b = 0; b < start.clauses; b++) {
                for (int answer = 0; answer <= 2; answer++) {
                    x.left(k, b, answer);
                }
            }
            return 0;
        });
    }

    private static void askedOfTimes(Start start, int p) {
        asked("line " + p, start, x -> x.line(p));
        asked("known " + p, start, x -> {
            for (int q = 0; q <= start.lastTime(); q++) {
                x.known(p, q);
            }
            return 0;
        });
        asked("would " + p, start, x -> {
            for (int q = 0; q <= start.lastTime(); q++) {
                x.would(p, 0, q);
                x.would(p, 1, q);
            }
            return 0;
        });
    }

    private static void allOf(Start start) {
        type(start);
        readsWithAFault(start);
        clause(start);
        statement(start);
        saying(start, "says", TenseLines::says);
        takes(start);
        tenses(start);
        links(start);
        undo(start);
        what(start, "clash", 1, TenseLines::clash);
        knownAndLine(start);
        saying(start, "would", TenseLines::would);
        left(start);
        what(start, "best", 2, TenseLines::best);
        sees(start);
        images(start);
        what(start, "count", 5, TenseLines::count);
        askedOfAll(start);
    }

    public static void main(String[] args) {
        startsHaveWhatTheyTell();
        for (Start start : Start.values()) {
            allOf(start);
        }
        typeIsFull();
        saysIsFull();
        seesIsFull();
        finish("what is refused or asked changes nothing");
    }
}
