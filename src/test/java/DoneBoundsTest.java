/**
 * What is told of a new object, done, UNDONE, SEEN and kept: each sentence of "Terms" and of promises
 * 1, 5 to 11, 20 to 25 that names an edge, with a test of its own that has the sentence above it.
 * What is refused and that nothing changes then is in RefusedTest.
 */
public final class DoneBoundsTest extends Checks {
    private static final String EIGHT_CLAUSES = "d;/d;/d;/d;/d;/d;/d;/d;";

    /** Promise 1: "No CLAUSES, no SAYINGS." */
    private static void aNewObjectHasNothing() {
        TenseLines x = new TenseLines();
        same("count() of a new object", counts(x), "0 0 0 0 0 0 ");
        due("clause(0, 0)", x.clause(0, 0), BAD);
        due("statement(0, 0)", x.statement(0, 0), BAD);
        due("says(0, 0, 2)", x.says(0, 0, 2), BAD);
        due("takes(0)", x.takes(0), BAD);
        due("tenses(0, 0)", x.tenses(0, 0), BAD);
        due("links(1, 0)", x.links(1, 0), BAD);
        due("left(0, 1, 0)", x.left(0, 1, 0), BAD);
        due("undo()", x.undo(), STATE);
        due("back(0)", x.back(0), STATE);
        due("back(1)", x.back(1), STATE);
        due("clear()", x.clear(), 0);
        due("forget()", x.forget(), 0);
        due("reads()", x.reads(), 0);
    }

    /** Objects have nothing in common. */
    private static void twoObjectsAreTwo() {
        TenseLines x = Start.WHOLE.make();
        TenseLines y = new TenseLines();
        same("a second object", counts(y), "0 0 0 0 0 0 ");
        String was = shape(x);
        read(y, "u;N=A;");
        y.keep(0);
        y.says(0, 0, 2);
        y.sees(0, 0, 4);
        same("the first stays", shape(x), was);
        same("its counts, too", counts(x), "8 6 14 6 80 10 ");
    }

    /** Promise 5: "1 its LINK (NONE: the first one), 2 its STATEMENT": the first and the last of eight. */
    private static void clausesFromTheFirstToTheLast() {
        TenseLines x = told("d;+h;=w;-p;/v;A<B;+g;=f;-u;");
        int[] link = {NONE, 0, 1, 2, 3, 0, 1, 2};
        for (int c = 0; c < 8; c++) {
            due("TENSE of " + c, x.clause(c, 0), c);
            due("LINK of " + c, x.clause(c, 1), link[c]);
            due("STATEMENT of " + c, x.clause(c, 2), c < 5 ? c : c + 1);
        }
    }

    /** Promise 6: "0 its CLAUSE (NONE: a SAYING) .. (NONE: a CLAUSE)": the first and the last of fourteen. */
    private static void statementsFromTheFirstToTheLast() {
        TenseLines x = told("d;A<N;N<A;A=N;N=A;A<N;/d;/d;/d;/d;/d;/d;/u;H<G;");
        for (int what = 1; what <= 3; what++) {
            due("STATEMENT 0 " + what, x.statement(0, what), NONE);
            due("STATEMENT 12 " + what, x.statement(12, what), NONE);
        }
        due("CLAUSE of 0", x.statement(0, 0), 0);
        due("CLAUSE of 12", x.statement(12, 0), 7);
        due("CLAUSE of 13", x.statement(13, 0), NONE);
        due("first TIME of 13", x.statement(13, 1), 16);
        due("sign of 13", x.statement(13, 2), 0);
        due("second TIME of 13", x.statement(13, 3), 14);
        due("sign of 3", x.statement(3, 2), 1);
        due("NOW as the first", x.statement(2, 1), 0);
        due("NOW as the second", x.statement(1, 3), 0);
    }

    /** Promise 7: "FULL: 6 SAYINGS": those of the text count; one taken or UNDONE makes room. */
    private static void sixSayingsCanBeSaid() {
        for (int told = 0; told <= 6; told++) {
            TenseLines x = told("d;/d;" + "A<B;".repeat(told));
            for (int n = told + 1; n <= 6; n++) {
                due("SAYING " + n, x.says(2, 0, 4), 2 + n);
                due("SAYINGS", x.count(1), n);
            }
            due("SAYING 7", x.says(2, 0, 4), FULL);
            due("SAYINGS stay six", x.count(1), 6);
            x.takes(2);
            due("room by takes()", x.says(4, 1, 2), 8);
            due("no more room", x.says(4, 1, 2), FULL);
            x.undo();
            due("room by undo()", x.says(4, 1, 2), 8);
            due("no more room again", x.says(4, 1, 2), FULL);
        }
    }

    /** Promise 7: with 8 CLAUSES, too, six can be said: 14 STATEMENTS. */
    private static void fourteenStatements() {
        TenseLines x = told(EIGHT_CLAUSES);
        for (int n = 1; n <= 6; n++) {
            due("STATEMENTS", x.says(16, 0, 0), 8 + n);
        }
        due("one more", x.says(16, 0, 0), FULL);
        due("count(2)", x.count(2), 14);
        due("the last one", x.statement(13, 1), 16);
    }

    /** "TIMES (NOW, EVENTS; else BAD)": each of them can be the first and the second. */
    private static void ofWhichTimesCanBeSaid() {
        for (int p = 0; p <= 17; p++) {
            for (int q = 0; q <= 17; q++) {
                boolean good = p % 2 == 0 && q % 2 == 0 && p != q;
                for (int sign = 0; sign <= 1; sign++) {
                    TenseLines x = told(EIGHT_CLAUSES);
                    due("says(" + p + ", " + sign + ", " + q + ")", x.says(p, sign, q), good ? 9 : BAD);
                    due("first TIME", x.statement(8, 1), good ? p : BAD);
                    due("sign", x.statement(8, 2), good ? sign : BAD);
                    due("second TIME", x.statement(8, 3), good ? q : BAD);
                }
            }
        }
    }

    /** "a SAYING said (the next STATEMENT)": behind CLAUSES that were told later, too. */
    private static void aSayingIsTheNextStatement() {
        TenseLines x = told("d;A<N;/h;");
        x.says(4, 1, 0);
        same("says() puts it last", shape(x), "0:0,-9,0 -9:2,0,0 1:1,3,2 -9:4,1,0 ");
    }

    /** "a STATEMENT that is a SAYING taken (those behind it have numbers 1 lower)": the first, the last. */
    private static void thoseBehindHaveNumbersOneLower() {
        String text = "d;A<N;/h;B<A;N<B;/w;C=A;";
        same("all of them", shape(told(text)), "0:0,-9,0 -9:2,0,0 1:1,3,2 -9:4,0,2 -9:0,0,4 2:2,3,5 -9:6,1,2 ");
        taken(text, 1, "0:0,-9,0 1:1,3,1 -9:4,0,2 -9:0,0,4 2:2,3,4 -9:6,1,2 ");
        taken(text, 3, "0:0,-9,0 -9:2,0,0 1:1,3,2 -9:0,0,4 2:2,3,4 -9:6,1,2 ");
        taken(text, 6, "0:0,-9,0 -9:2,0,0 1:1,3,2 -9:4,0,2 -9:0,0,4 2:2,3,5 ");
    }

    private static void taken(String text, int k, String want) {
        TenseLines x = told(text);
        due("takes(" + k + ")", x.takes(k), 6);
        same("behind takes(" + k + ")", shape(x), want);
        due("the old last one", x.statement(6, 0), BAD);
        due("takes() of the old last one", x.takes(6), BAD);
    }

    /** Promise 8: "STATEMENTS that are left": down to the CLAUSES alone. */
    private static void allSayingsCanBeTaken() {
        TenseLines x = told(EIGHT_CLAUSES + "A<B;B<C;C<D;D<E;E<F;F<G;");
        for (int n = 13; n >= 8; n--) {
            due("takes(8)", x.takes(8), n);
            due("SAYINGS", x.count(1), n - 8);
            // F<G was told last, and stays last.
            due("first TIME of the last", x.statement(n - 1, 1), n > 8 ? 12 : NONE);
            due("second TIME of the last", x.statement(n - 1, 3), n > 8 ? 14 : NONE);
        }
        due("none is left", x.takes(8), BAD);
        due("a CLAUSE", x.takes(7), BAD);
        due("CLAUSES stay", x.count(0), 8);
        due("says() begins anew", x.says(2, 0, 4), 9);
    }

    /** Promise 9: "another one: what it was": from each TENSE to each; "STATE: it is that". */
    private static void fromEachTenseToEach() {
        for (int c : new int[] {0, 7}) {
            for (int from = 0; from < 8; from++) {
                for (int to = 0; to < 8; to++) {
                    TenseLines x = told(EIGHT_CLAUSES);
                    x.tenses(c, from);
                    due("tenses(" + c + ", " + to + ")", x.tenses(c, to), from == to ? STATE : from);
                    due("TENSE", x.clause(c, 0), to);
                    due("of the other", x.clause(7 - c, 0), 0);
                }
            }
        }
    }

    /** Promise 10: "another one: what it was .. (of the first one, too); STATE: it is that". */
    private static void fromEachLinkToEach() {
        for (int c = 0; c < 8; c++) {
            for (int from = 0; from < 4; from++) {
                for (int to = 0; to < 4; to++) {
                    TenseLines x = told(EIGHT_CLAUSES);
                    x.links(c, from);
                    int want = from == to ? STATE : from;
                    due("links(" + c + ", " + to + ")", x.links(c, to), c == 0 ? BAD : want);
                    due("LINK", x.clause(c, 1), c == 0 ? NONE : to);
                }
            }
        }
    }

    /** "10 are known, older ones are lost": at nine, ten, eleven, and far beyond. */
    private static void tenAreKnown() {
        for (int done : new int[] {1, 9, 10, 11, 12, 19, 20, 21, 30, 31, 100}) {
            TenseLines x = told("d;/d;");
            for (int i = 1; i <= done; i++) {
                x.tenses(1, i % 8);
                due("may be UNDONE of " + i, x.count(5), Math.min(i, 10));
            }
            int known = Math.min(done, 10);
            for (int i = 1; i <= known; i++) {
                due("undo() " + i + " of " + done, x.undo(), known - i);
                due("count(5)", x.count(5), known - i);
                due("TENSE", x.clause(1, 0), (done - i) % 8);
            }
            due("undo() when none is left", x.undo(), STATE);
            due("TENSE stays", x.clause(1, 0), (done - known) % 8);
        }
    }

    /** The same with each kind that can be UNDONE, all of them in turns, beyond the ten. */
    private static void eachKindIsUndone() {
        TenseLines x = told("d;/h;A<B;");
        String[] were = new String[12];
        for (int i = 0; i < 12; i++) {
            were[i] = shape(x);
            if (doOne(x, i) < 0) {
                report("call " + i + " was refused");
            }
        }
        for (int i = 11; i >= 2; i--) {
            due("undo()", x.undo(), i - 2);
            same("as ahead of call " + i, shape(x), were[i]);
        }
        due("the first two are lost", x.undo(), STATE);
    }

    private static int doOne(TenseLines x, int i) {
        switch (i % 4) {
            case 0:
                return x.says(4, i % 8 / 4, 0);
            case 1:
                return x.tenses(i % 8 / 4, 2 + i % 5);
            case 2:
                return x.takes(2);
            default:
                return x.links(1, i / 4);
        }
    }

    /** "the latest": what was UNDONE is not done again, and what is done then counts anew. */
    private static void undoneAndDoneInTurns() {
        TenseLines x = told("d;");
        for (int i = 1; i <= 8; i++) {
            x.tenses(0, i % 8);
        }
        for (int i = 0; i < 5; i++) {
            x.undo();
        }
        due("TENSE behind five undo()", x.clause(0, 0), 3);
        due("three are left", x.count(5), 3);
        for (int i = 0; i < 9; i++) {
            x.tenses(0, i % 2 == 0 ? 7 : 6);
        }
        due("ten again", x.count(5), 10);
        for (int i = 9; i >= 0; i--) {
            due("undo()", x.undo(), i);
        }
        due("TENSE behind all", x.clause(0, 0), 2);
        due("none", x.undo(), STATE);
    }

    /** "the latest says(), takes(), tenses(), links() that was not refused": no other call is UNDONE. */
    private static void onlyWhatIsDoneIsUndone() {
        TenseLines x = told("d;/d;A<B;");
        x.tenses(0, 3);
        refuseAllKinds(x);
        x.keep(0);
        x.sees(0, 2, 1);
        x.forget();
        x.type('d');
        x.reads();
        x.clear();
        x.would(2, 0, 4);
        due("one may be UNDONE", x.count(5), 1);
        due("undo()", x.undo(), 0);
        same("as told", shape(x), shape(told("d;/d;A<B;")));
        due("IMAGE 0 stays over undo()", x.back(0), 3);
        due("as it was kept", x.clause(0, 0), 3);
    }

    private static void refuseAllKinds(TenseLines x) {
        due("BAD says()", x.says(2, 0, 2), BAD);
        due("BAD takes()", x.takes(0), BAD);
        due("BAD tenses()", x.tenses(2, 0), BAD);
        due("STATE tenses()", x.tenses(0, 3), STATE);
        due("BAD links()", x.links(0, 0), BAD);
        due("STATE links()", x.links(1, 3), STATE);
    }

    /** A FULL says() is not UNDONE either. */
    private static void aFullSaysIsNotUndone() {
        TenseLines x = told("d;A<N;A<N;A<N;A<N;A<N;A<N;");
        due("FULL", x.says(2, 0, 0), FULL);
        due("none", x.undo(), STATE);
        due("SAYINGS", x.count(1), 6);
    }

    /** "SEEN (never more than 6)"; "FULL: 6"; "Nothing is SEEN: how much was." */
    private static void sixCanBeSeen() {
        for (int n = 0; n <= 6; n++) {
            TenseLines x = told("d;");
            for (int i = 1; i <= n; i++) {
                due("sees() " + i, x.sees(2, 0, i % 5), i);
                due("count(3)", x.count(3), i);
            }
            if (n == 6) {
                due("sees() 7", x.sees(2, 0, 1), FULL);
                due("count(3) stays", x.count(3), 6);
            }
            due("forget()", x.forget(), n);
            due("count(3) behind forget()", x.count(3), 0);
            due("forget() again", x.forget(), 0);
            due("sees() anew", x.sees(2, 0, 1), 1);
        }
    }

    /** What a FULL sees() would have told is not SEEN. */
    private static void aFullSeesIsNotSeen() {
        TenseLines x = told("d;");
        for (int i = 0; i < 6; i++) {
            x.sees(2, 0, 0);
        }
        due("UNSEEN of six", x.unseen(), 1);
        due("FULL", x.sees(2, 0, 4), FULL);
        due("UNSEEN stays", x.unseen(), 1);
    }

    /** "TIMES that are there, r 0 .. 4": LOOKS too, each TIME and itself, with each r. */
    private static void ofWhichTimesCanBeSeen() {
        for (int p = 0; p <= 17; p++) {
            for (int r = -1; r <= 5; r++) {
                int want = p <= 16 && r >= 0 && r <= 4 ? 1 : BAD;
                due("sees(" + p + ", 16, " + r + ")", told(EIGHT_CLAUSES).sees(p, 16, r), want);
                due("sees(0, " + p + ", " + r + ")", told(EIGHT_CLAUSES).sees(0, p, r), want);
                due("sees(" + p + ", " + p + ", " + r + ")", told(EIGHT_CLAUSES).sees(p, p, r), want);
            }
        }
        due("NOW without CLAUSES", new TenseLines().sees(0, 0, 2), 1);
        due("no LOOK without CLAUSES", new TenseLines().sees(1, 0, 2), BAD);
    }

    /** "IMAGES 0, 1 keep all STATEMENTS": both are each their own, and can be kept anew. */
    private static void bothImagesKeepTheirOwn() {
        TenseLines x = Start.WHOLE.make();
        String last = shape(x);
        due("keep(0)", x.keep(0), 14);
        x.takes(13);
        x.takes(12);
        x.tenses(7, 0);
        String fewer = shape(x);
        due("keep(1)", x.keep(1), 12);
        due("back(0)", x.back(0), 14);
        same("IMAGE 0", shape(x), last);
        due("back(1)", x.back(1), 12);
        same("IMAGE 1", shape(x), fewer);
        due("back(1) again", x.back(1), 12);
        x.tenses(0, 5);
        due("keep(1) anew", x.keep(1), 12);
        x.undo();
        due("back(1) anew", x.back(1), 12);
        due("TENSE of the new IMAGE", x.clause(0, 0), 5);
        due("IMAGE 0 stays", x.back(0), 14);
        same("as it was", shape(x), last);
    }

    /** An IMAGE without STATEMENTS is one, too. */
    private static void anEmptyImageIsKept() {
        for (int image = 0; image <= 1; image++) {
            TenseLines x = new TenseLines();
            due("back() of none", x.back(image), STATE);
            due("keep() of nothing", x.keep(image), 0);
            due("back() to nothing", x.back(image), 0);
            due("the other was not kept", x.back(1 - image), STATE);
        }
    }

    /** "nothing else (nothing can be UNDONE behind back())": SEEN and THE TEXT stay as they are. */
    private static void anImageKeepsNothingElse() {
        TenseLines x = told("d;/d;A<B;");
        x.sees(2, 4, 0);
        type(x, "h;");
        x.keep(0);
        x.forget();
        x.clear();
        type(x, "u;+u");
        x.sees(2, 4, 1);
        x.sees(2, 4, 1);
        x.links(1, 0);
        x.says(2, 0, 4);
        due("back(0)", x.back(0), 3);
        same("SEEN and THE TEXT as ahead of it", counts(x), "2 1 3 2 4 0 ");
        due("undo() behind back()", x.undo(), STATE);
        due("UNSEEN by what was SEEN last", x.unseen(), 0b011);
        due("THE TEXT typed last", x.reads(), -14);
        x.tenses(0, 1);
        due("what is done then is UNDONE", x.undo(), 0);
        due("and no more", x.undo(), STATE);
    }

    /** back() to what is so already, too, leaves nothing that can be UNDONE. */
    private static void backToTheSame() {
        TenseLines x = told("d;");
        x.tenses(0, 1);
        x.keep(1);
        due("back(1)", x.back(1), 1);
        due("undo()", x.undo(), STATE);
        due("TENSE", x.clause(0, 0), 1);
    }

    /** Promise 25: from nothing to as much as there can be. */
    private static void countsOfEachStart() {
        same("EMPTY", counts(Start.EMPTY.make()), "0 0 0 0 0 0 ");
        same("ONE", counts(Start.ONE.make()), "1 0 1 0 0 0 ");
        same("MIDDLE", counts(Start.MIDDLE.make()), "3 3 6 1 3 2 ");
        same("WHOLE", counts(Start.WHOLE.make()), "8 6 14 6 80 10 ");
    }

    /** "An object is used for at most 512 calls": the last of them is answered as the first. */
    private static void theLastOf512Calls() {
        TenseLines x = new TenseLines();
        type(x, "d;");
        due("reads()", x.reads(), 1);
        for (int call = 4; call <= 509; call++) {
            due("call " + call, x.tenses(0, (call - 3) % 8), (call - 4) % 8);
        }
        due("call 510", x.count(5), 10);
        due("call 511", x.undo(), 9);
        due("call 512", x.clause(0, 0), (508 - 3) % 8);
    }

    public static void main(String[] args) {
        aNewObjectHasNothing();
        twoObjectsAreTwo();
        clausesFromTheFirstToTheLast();
        statementsFromTheFirstToTheLast();
        sixSayingsCanBeSaid();
        fourteenStatements();
        ofWhichTimesCanBeSaid();
        aSayingIsTheNextStatement();
        thoseBehindHaveNumbersOneLower();
        allSayingsCanBeTaken();
        fromEachTenseToEach();
        fromEachLinkToEach();
        tenAreKnown();
        eachKindIsUndone();
        undoneAndDoneInTurns();
        onlyWhatIsDoneIsUndone();
        aFullSaysIsNotUndone();
        sixCanBeSeen();
        aFullSeesIsNotSeen();
        ofWhichTimesCanBeSeen();
        bothImagesKeepTheirOwn();
        anEmptyImageIsKept();
        anImageKeepsNothingElse();
        backToTheSame();
        countsOfEachStart();
        theLastOf512Calls();
        finish("the edges of what is done, SEEN and kept hold");
    }
}
