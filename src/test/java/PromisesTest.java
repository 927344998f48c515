/** Promises 1 to 25, each with ordinary inputs, the edges that the document names, and wrong inputs. */
public final class PromisesTest extends Checks {
    /** All that the face shows of what is told and kept count of, for "nothing changes". */
    private static String face(TenseLines x) {
        return counts(x) + shape(x) + x.unseen();
    }

    private static void promise1NewObject() {
        TenseLines x = new TenseLines();
        for (int what = 0; what <= 5; what++) {
            due("1 count " + what, x.count(what), 0);
        }
        due("1 sound", x.sound(), 1);
        due("1 orders", x.orders(), 1);
        due("1 known", x.known(0, 0), 2);
        due("1 line", x.line(0), 0);
        due("1 back 0", x.back(0), STATE);
        due("1 back 1", x.back(1), STATE);
        due("1 undo", x.undo(), STATE);
        due("1 clause", x.clause(0, 0), BAD);
        due("1 statement", x.statement(0, 0), BAD);
        due("1 forget", x.forget(), 0);
        due("1 clear", x.clear(), 0);
        due("1 reads", x.reads(), 0);
    }

    private static void promise2Type() {
        TenseLines x = new TenseLines();
        for (int letter : new int[] {-1, 256, MIN, MAX, -200}) {
            due("2 type bad", x.type(letter), BAD);
        }
        due("2 type 0", x.type(0), 1);
        due("2 type 255", x.type(255), 2);
        for (int n = 3; n <= 80; n++) {
            due("2 type", x.type(' '), n);
        }
        due("2 full", x.type('d'), FULL);
        due("2 bad goes ahead of full", x.type(256), BAD);
        due("2 full changes nothing", x.count(4), 80);
        due("2 fault of letter 0", x.reads(), -10);
        due("2 emptied", x.clear(), 80);
        due("2 again", x.type('d'), 1);
    }

    private static void promise3Clear() {
        TenseLines x = told("d;");
        x.sees(0, 0, 2);
        x.keep(0);
        x.says(2, 0, 0);
        x.type('h');
        x.type(' ');
        due("3 clear", x.clear(), 2);
        due("3 clear again", x.clear(), 0);
        due("3 statements stay", x.count(2), 2);
        due("3 seen stays", x.count(3), 1);
        due("3 undo stays", x.count(5), 1);
        due("3 image stays", x.back(0), 1);
        due("3 reads empty", x.reads(), 0);
        due("3 all is gone", x.count(0), 0);
    }

    private static void promise4Reads() {
        due("4 all tenses", read(new TenseLines(), "d;+h;=w;-p;/v;+g;+f;+u;"), 8);
        due("4 blanks", read(new TenseLines(), "  d ; + h ;A < B ; "), 3);
        due("4 saying between", read(new TenseLines(), "d;A<N;/d;B=A;"), 4);
        due("4 all there can be", read(new TenseLines(), "d;/d;/d;/d;/d;/d;/d;/d;A<B;A<C;A<D;A<E;A<F;A=H;"), 14);
        fault("d", 1);
        fault("d ", 2);
        fault("d;+", 3);
        fault("d;+h", 4);
        fault("d;A", 3);
        fault("d;A<", 4);
        fault("d;A<N   ", 8);
        fault(";", 0);
        fault("  ;", 2);
        fault("d;;", 2);
        fault("x;", 0);
        fault("+d;", 0);
        fault("A<N;", 0);
        fault("N<N;", 2);
        fault("N=A;", 2);
        fault("Nd;", 1);
        fault("d;d;", 2);
        fault("d;++d;", 3);
        fault("d;+;", 3);
        fault("d+h;", 1);
        fault("d;B<A;", 2);
        fault("d;A<B;", 4);
        fault("d;A<B;/d;", 4);
        fault("d;A>N;", 3);
        fault("d;A<<N;", 4);
        fault("d;A<N<N;", 5);
        fault("d;A<A;", 4);
        fault("d;A= A;", 5);
        fault("d;a<N;", 2);
        fault("d;A<n;", 4);
        fault("D;", 0);
        fault("d;I<A;", 2);
        fault("d;@<A;", 2);
        fault("d;/d;/d;/d;/d;/d;/d;/d;A<H;A<I;", 29);
        fault("d;/d;/d;/d;/d;/d;/d;/d; /d;", 24);
        fault("d;/d;/d;/d;/d;/d;/d;/d;A<B;-", 27);
        fault("d;A<N;A<N;A<N;A<N;A<N;A<N;A", 26);
        fault("d;A<N;A<N;A<N;A<N;A<N;A<N; N<A;", 27);
        fault("d\t;", 1);
        due("4 clause behind six sayings", read(new TenseLines(), "d;A<N;A<N;A<N;A<N;A<N;A<N;/d;"), 8);
        StringBuilder blanks = new StringBuilder("d");
        while (blanks.length() < 80) {
            blanks.append(' ');
        }
        fault(blanks.toString(), 80);
        due("4 blanks alone", read(new TenseLines(), "   "), 0);
        readsTellsAnew();
        faultChangesNothing();
    }

    private static void fault(String text, int place) {
        due("4 fault of '" + text + "'", read(new TenseLines(), text), -10 - place);
    }

    private static void readsTellsAnew() {
        TenseLines x = told("d;/h;A<B;");
        x.says(2, 0, 0);
        x.sees(0, 2, 3);
        x.keep(0);
        x.keep(1);
        due("4 anew", read(x, "f;"), 1);
        due("4 clauses", x.count(0), 1);
        due("4 sayings", x.count(1), 0);
        due("4 seen", x.count(3), 0);
        due("4 text", x.count(4), 0);
        due("4 undone", x.count(5), 0);
        due("4 undo", x.undo(), STATE);
        due("4 image 0", x.back(0), STATE);
        due("4 image 1", x.back(1), STATE);
        due("4 tense", x.clause(0, 0), 6);
    }

    private static void faultChangesNothing() {
        TenseLines x = told("d;/h;A<B;");
        x.says(2, 0, 0);
        x.sees(0, 2, 3);
        x.keep(0);
        for (char letter : "f;+p;-".toCharArray()) {
            x.type(letter);
        }
        String before = face(x);
        due("4 fault", x.reads(), -16);
        same("4 fault changes nothing", face(x), before);
        due("4 undo stays", x.undo(), 0);
        due("4 image stays", x.back(0), 4);
        x.type('u');
        x.type(';');
        due("4 the text goes on", x.reads(), 3);
    }

    private static void promise5Clause() {
        TenseLines x = told("d;A<N;+h;=w;B<A;-p;/v;");
        int[] tense = {0, 1, 2, 3, 4};
        int[] link = {NONE, 0, 1, 2, 3};
        int[] place = {0, 2, 3, 5, 6};
        for (int c = 0; c < 5; c++) {
            due("5 tense " + c, x.clause(c, 0), tense[c]);
            due("5 link " + c, x.clause(c, 1), link[c]);
            due("5 place " + c, x.clause(c, 2), place[c]);
        }
        TenseLines y = told("g;/f;/u;");
        due("5 g", y.clause(0, 0), 5);
        due("5 f", y.clause(1, 0), 6);
        due("5 u", y.clause(2, 0), 7);
        for (int c : new int[] {-1, 5, MIN, MAX}) {
            due("5 no clause", x.clause(c, 0), BAD);
        }
        for (int what : new int[] {-1, 3, MIN, MAX}) {
            due("5 no such thing", x.clause(0, what), BAD);
        }
    }

    private static void promise6Statement() {
        TenseLines x = told("d;A=N;+h;N<B;");
        int[][] want = {{0, NONE, NONE, NONE}, {NONE, 2, 1, 0}, {1, NONE, NONE, NONE}, {NONE, 0, 0, 4}};
        for (int k = 0; k < 4; k++) {
            for (int what = 0; what < 4; what++) {
                due("6 statement " + k + " " + what, x.statement(k, what), want[k][what]);
            }
        }
        for (int k : new int[] {-1, 4, MIN, MAX}) {
            due("6 no statement", x.statement(k, 0), BAD);
        }
        for (int what : new int[] {-1, 4, MIN, MAX}) {
            due("6 no such thing", x.statement(0, what), BAD);
            due("6 no such thing", x.statement(1, what), BAD);
        }
    }

    private static void promise7Says() {
        TenseLines x = told("d;/d;");
        int[][] bad = {{2, 0, 2}, {0, 1, 0}, {1, 0, 2}, {2, 0, 3}, {2, 0, 6}, {6, 0, 2}, {-2, 0, 2}, {2, 0, -2},
            {2, -1, 4}, {2, 2, 4}, {MIN, 0, 2}, {2, 0, MAX}, {2, MIN, 4}};
        String before = face(x);
        for (int[] b : bad) {
            due("7 bad " + b[0] + " " + b[1] + " " + b[2], x.says(b[0], b[1], b[2]), BAD);
        }
        same("7 bad changes nothing", face(x), before);
        due("7 says", x.says(2, 0, 4), 3);
        due("7 says", x.says(0, 1, 4), 4);
        due("7 first", x.statement(3, 1), 0);
        due("7 sign", x.statement(3, 2), 1);
        due("7 second", x.statement(3, 3), 4);
        due("7 clause", x.statement(3, 0), NONE);
        due("7 sound", x.sound(), 0);
        due("7 the same again", x.says(2, 0, 4), 5);
        x.says(2, 0, 4);
        x.says(2, 0, 4);
        due("7 the sixth", x.says(2, 0, 4), 8);
        before = face(x);
        due("7 full", x.says(4, 0, 2), FULL);
        due("7 bad ahead of full", x.says(2, 0, 2), BAD);
        same("7 full changes nothing", face(x), before);
        TenseLines none = new TenseLines();
        due("7 no clauses", none.says(0, 0, 2), BAD);
        due("7 NOW and itself", none.says(0, 0, 0), BAD);
    }

    private static void promise8Takes() {
        TenseLines x = told("d;A<N;/d;B=A;N=B;");
        String before = face(x);
        for (int k : new int[] {0, 2, -1, 5, MIN, MAX}) {
            due("8 bad " + k, x.takes(k), BAD);
        }
        same("8 bad changes nothing", face(x), before);
        due("8 takes", x.takes(1), 4);
        due("8 clause moved", x.clause(1, 2), 1);
        due("8 clause of it", x.statement(1, 0), 1);
        due("8 saying moved", x.statement(2, 1), 4);
        due("8 saying moved", x.statement(3, 1), 0);
        due("8 no more there", x.statement(4, 0), BAD);
        due("8 sound no", x.sound(), 0);
        due("8 takes the last", x.takes(3), 3);
        due("8 sound", x.sound(), 1);
        due("8 takes", x.takes(2), 2);
        due("8 sayings", x.count(1), 0);
        due("8 none is left", x.takes(2), BAD);
        takesOfAllThereCanBe();
    }

    private static void takesOfAllThereCanBe() {
        TenseLines x = told("d;A<N;N<A;A=N;N=A;A<N;/d;/d;/d;/d;/d;/d;/u;H<G;");
        x.keep(1);
        String whole = face(x);
        due("8 takes of fourteen", x.takes(2), 13);
        due("8 last first", x.statement(12, 1), 16);
        due("8 last sign", x.statement(12, 2), 0);
        due("8 last second", x.statement(12, 3), 14);
        due("8 last clause", x.clause(7, 2), 11);
        due("8 taken sign", x.statement(2, 2), 1);
        due("8 next sign", x.statement(3, 2), 1);
        due("8 sign behind", x.statement(4, 2), 0);
        x.undo();
        same("8 undone whole", face(x), whole);
        x.takes(13);
        x.back(1);
        same("8 back whole", face(x), whole);
    }

    private static void promise9Tenses() {
        TenseLines x = told("d;/h;");
        for (int c : new int[] {-1, 2, MIN, MAX}) {
            due("9 bad clause", x.tenses(c, 3), BAD);
        }
        for (int tense : new int[] {-1, 8, MIN, MAX}) {
            due("9 bad tense", x.tenses(0, tense), BAD);
        }
        due("9 state", x.tenses(0, 0), STATE);
        due("9 state", x.tenses(1, 1), STATE);
        due("9 nothing done", x.count(5), 0);
        due("9 tenses", x.tenses(0, 7), 0);
        due("9 tenses", x.tenses(0, 6), 7);
        due("9 is so", x.clause(0, 0), 6);
        due("9 other stays", x.clause(1, 0), 1);
        due("9 known", x.known(0, 2), 1);
        due("9 done", x.count(5), 2);
    }

    private static void promise10Links() {
        TenseLines x = told("d;/d;+d;");
        for (int c : new int[] {-1, 0, 3, MIN, MAX}) {
            due("10 bad clause", x.links(c, 1), BAD);
        }
        for (int link : new int[] {-1, 4, MIN, MAX}) {
            due("10 bad link", x.links(1, link), BAD);
        }
        due("10 first one is bad, not state", x.links(0, NONE), BAD);
        due("10 state", x.links(1, 3), STATE);
        due("10 nothing done", x.count(5), 0);
        due("10 links", x.links(1, 2), 3);
        due("10 known", x.known(2, 4), 3);
        due("10 links", x.links(1, 1), 2);
        due("10 known", x.known(2, 4), 2);
        due("10 links", x.links(1, 0), 1);
        due("10 known", x.known(2, 4), 1);
        due("10 done", x.count(5), 3);
        due("10 first link", x.clause(0, 1), NONE);
    }

    private static void promise11Undo() {
        TenseLines x = told("d;A<N;/h;");
        String start = face(x);
        due("11 none", x.undo(), STATE);
        x.takes(1);
        String taken = face(x);
        x.says(4, 1, 2);
        x.tenses(0, 3);
        x.links(1, 1);
        due("11 four", x.count(5), 4);
        due("11 undo link", x.undo(), 3);
        due("11 link", x.clause(1, 1), 3);
        due("11 undo tense", x.undo(), 2);
        due("11 tense", x.clause(0, 0), 0);
        due("11 undo says", x.undo(), 1);
        same("11 as when taken", face(x), taken);
        due("11 undo takes", x.undo(), 0);
        same("11 as at first", face(x), start);
        due("11 none again", x.undo(), STATE);
        refusedIsNotUndone();
        tenAreKnown();
    }

    private static void refusedIsNotUndone() {
        TenseLines x = told("d;/h;");
        x.tenses(0, 5);
        x.tenses(0, 5);
        x.says(1, 0, 2);
        x.takes(0);
        x.links(1, 3);
        x.links(0, 1);
        x.sees(0, 2, 1);
        x.keep(0);
        due("11 one", x.count(5), 1);
        due("11 undo", x.undo(), 0);
        due("11 tense", x.clause(0, 0), 0);
        due("11 seen stays", x.count(3), 1);
        due("11 image stays", x.back(0), 2);
        due("11 tense of the image", x.clause(0, 0), 5);
    }

    private static void tenAreKnown() {
        TenseLines x = told("d;/h;");
        for (int i = 1; i <= 13; i++) {
            x.tenses(0, i % 8);
            due("11 count", x.count(5), Math.min(i, 10));
        }
        for (int i = 12; i >= 3; i--) {
            due("11 undo", x.undo(), i - 3);
            due("11 tense", x.clause(0, 0), i % 8);
        }
        due("11 lost", x.undo(), STATE);
        x.tenses(0, 6);
        due("11 after all", x.undo(), 0);
        due("11 tense", x.clause(0, 0), 3);
    }

    private static void promise12Sound() {
        due("12 sound", told("d;+h;=d;").sound(), 1);
        due("12 not sound", told("d;N<A;").sound(), 0);
        due("12 equal and ahead", told("d;/d;A=B;A<B;").sound(), 0);
        due("12 equal twice", told("d;/d;A=B;B=A;").sound(), 1);
        due("12 ring", told("d;/d;/d;A<B;B<C;C<A;").sound(), 0);
        due("12 ring of links", told("d;+d;+d;C<A;").sound(), 0);
        due("12 past ahead of what is now", told("p;+d;").sound(), 0);
        due("12 v then g at once", told("v;=g;A<B;").sound(), 1);
        due("12 v then g turned", told("v;=g;B<A;").sound(), 0);
        due("12 w is free of NOW", told("w;A=N;").sound(), 1);
        due("12 u is free of NOW", told("u;A=N;").sound(), 1);
    }

    private static void promise13Clash() {
        TenseLines x = told("d;/d;/d;");
        for (int what : new int[] {-1, 2, MIN, MAX}) {
            due("13 bad", x.clash(what), BAD);
        }
        due("13 none", x.clash(0), NONE);
        due("13 none", x.clash(1), NONE);
        clash("d;N<A;", 0b11);
        clash("d;/d;A=B;A<B;B<A;", 0b1100);
        clash("d;/d;A<B;B<A;A=B;", 0b1100);
        clash("d;/d;/d;A<B;B<C;C<A;N<A;", 0b1000001);
        clash("d;/d;/d;A<B;B<C;C<A;", 0b111000);
        clash("d;+d;+d;C<A;", 0b1111);
        clash("d;+d;+d;+d;+d;+d;+d;+d;H<A;", 0b111111111);
        clash("d;+h;=w;-p;", 0b1100);
        clash("p;/d;/f;B=C;B=A;A=C;", 0b001110);
        clash("h;=h;A<B;B<A;N<B;", 0b1100);
        clash("h;=h;N<A;N<B;", 0b101);
        clash("p;-p;", 0b11);
    }

    private static void clash(String text, int set) {
        TenseLines x = told(text);
        due("13 set of " + text, x.clash(0), set);
        due("13 size of " + text, x.clash(1), Integer.bitCount(set));
        due("13 sound of " + text, x.sound(), 0);
    }

    private static void promise14Known() {
        // KNOWN of EVENT and LOOK, of LOOK and NOW, of EVENT and NOW, for each TENSE.
        int[][] want = {{2, 1, 1}, {1, 1, 1}, {3, 1, 0}, {2, 2, 2}, {1, 2, 1}, {3, 2, 3}, {2, 3, 3}, {1, 3, 0}};
        TenseLines x = told("d;/p;+d;");
        x.links(2, 3);
        for (int t = 0; t < 8; t++) {
            x.tenses(0, t);
            due("14 event to look of " + t, x.known(2, 1), want[t][0]);
            due("14 look to NOW of " + t, x.known(1, 0), want[t][1]);
            due("14 event to NOW of " + t, x.known(2, 0), want[t][2]);
            due("14 itself", x.known(2, 2), 2);
        }
        TenseLines y = told("d;/d;/d;");
        due("14 open", y.known(2, 4), 0);
        due("14 open looks", y.known(1, 3), 0);
        y.links(1, 0);
        due("14 +", y.known(1, 3), 1);
        due("14 + turned", y.known(3, 1), 3);
        due("14 + events", y.known(2, 4), 1);
        y.links(1, 2);
        due("14 -", y.known(1, 3), 3);
        y.links(1, 1);
        due("14 =", y.known(1, 3), 2);
        y.links(2, 0);
        due("14 over two", y.known(2, 6), 1);
        for (int p : new int[] {-1, 7, MIN, MAX}) {
            due("14 bad", y.known(p, 0), BAD);
            due("14 bad", y.known(0, p), BAD);
        }
        y.says(6, 0, 2);
        due("14 not sound", y.known(2, 4), 4);
        due("14 not sound, itself", y.known(0, 0), 4);
        due("14 bad ahead of not sound", y.known(7, 0), BAD);
    }

    private static void promise15Line() {
        TenseLines x = told("h;+u;/g;C=B;");
        // E0 < L0 < NOW = L2 < E2 = E1 < L1.
        int[] want = {2, 1, 0, 4, 3, 2, 3};
        for (int p = 0; p < want.length; p++) {
            due("15 line " + p, x.line(p), want[p]);
        }
        TenseLines open = told("w;/f;");
        due("15 NOW", open.line(0), 1);
        due("15 look", open.line(1), 0);
        due("15 event open to NOW", open.line(2), 1);
        due("15 behind NOW", open.line(4), 2);
        for (int p : new int[] {-1, 7, MIN, MAX}) {
            due("15 bad", x.line(p), BAD);
        }
        x.says(0, 0, 2);
        due("15 not sound", x.line(0), NONE);
        due("15 bad ahead of not sound", x.line(7), BAD);
        due("15 longest", longest().line(0), 9);
    }

    private static TenseLines longest() {
        return told("h;+h;+h;+h;+h;+h;+h;+h;");
    }

    private static void promise16Would() {
        TenseLines x = told("d;+d;=d;/d;");
        due("16 so anyway", x.would(2, 0, 4), 0);
        due("16 so anyway", x.would(4, 1, 6), 0);
        due("16 so anyway", x.would(2, 0, 0), 0);
        due("16 more", x.would(2, 0, 8), 1);
        due("16 more", x.would(2, 1, 8), 1);
        due("16 more", x.would(8, 0, 2), 1);
        due("16 not sound", x.would(4, 0, 2), 2);
        due("16 not sound", x.would(4, 1, 2), 2);
        due("16 not sound", x.would(4, 0, 6), 2);
        due("16 not sound", x.would(0, 0, 2), 2);
        due("16 not sound", x.would(2, 1, 4), 2);
        int[][] bad = {{2, 0, 2}, {1, 0, 2}, {2, 0, 3}, {2, 0, 10}, {-2, 0, 2}, {2, 2, 4}, {2, -1, 4}, {MIN, 0, 0},
            {0, 0, MAX}};
        for (int[] b : bad) {
            due("16 bad", x.would(b[0], b[1], b[2]), BAD);
        }
        due("16 nothing was said", x.count(2), 4);
        for (int i = 0; i < 6; i++) {
            x.says(2, 0, 4);
        }
        due("16 never full", x.would(2, 0, 8), 1);
        x.undo();
        x.says(4, 0, 2);
        due("16 not sound now", x.would(2, 0, 8), 4);
        due("16 not sound now", x.would(2, 0, 4), 4);
        due("16 bad ahead", x.would(2, 0, 2), BAD);
    }

    private static void promise17Orders() {
        int[] free = {1, 1, 3, 13, 75, 541, 4683, 47293, 545835};
        StringBuilder text = new StringBuilder();
        for (int n = 0; n <= 8; n++) {
            due("17 free " + n, told(text.toString()).orders(), free[n]);
            text.append(n == 0 ? "d;" : "/d;");
        }
        due("17 one row", told("d;+d;+d;").orders(), 1);
        due("17 all at once", told("d;=d;=d;").orders(), 1);
        due("17 looks are not looked at", told("w;+w;").orders(), 3);
        due("17 parted by NOW", told("d;/f;").orders(), 1);
        due("17 parted by NOW, two and two", told("d;/d;/f;/f;").orders(), 9);
        due("17 at once goes as one", told("d;/d;/d;A=B;").orders(), 3);
        due("17 one ahead of two", told("d;/d;/d;A<B;A<C;").orders(), 3);
        due("17 not sound", told("d;N<A;").orders(), 0);
    }

    private static void promise18Left() {
        TenseLines x = told("d;/d;/d;A=C;");
        due("18 ahead", x.left(0, 1, 0), 1);
        due("18 at once", x.left(0, 1, 1), 1);
        due("18 behind", x.left(0, 1, 2), 1);
        due("18 known at once", x.left(0, 2, 1), 3);
        due("18 known not ahead", x.left(0, 2, 0), 0);
        due("18 known not behind", x.left(2, 0, 2), 0);
        due("18 by the other at once", x.left(1, 2, 0), 1);
        TenseLines y = told("d;/d;/d;/d;A<B;");
        due("18 all", y.orders(), 31);
        due("18 known ahead", y.left(0, 1, 0), 31);
        due("18 known behind", y.left(1, 0, 2), 31);
        due("18 not at once", y.left(0, 1, 1), 0);
        due("18 ahead", y.left(2, 3, 0), 13);
        due("18 at once", y.left(2, 3, 1), 5);
        due("18 behind", y.left(2, 3, 2), 13);
        due("18 turned", y.left(1, 2, 0), y.left(2, 1, 2));
        for (int c : new int[] {-1, 4, MIN, MAX}) {
            due("18 bad", y.left(c, 0, 0), BAD);
            due("18 bad", y.left(0, c, 0), BAD);
        }
        for (int answer : new int[] {-1, 3, MIN, MAX}) {
            due("18 bad answer", y.left(0, 1, answer), BAD);
        }
        due("18 like clauses", y.left(1, 1, 1), BAD);
        y.says(4, 0, 2);
        due("18 not sound", y.left(0, 1, 0), 0);
        due("18 not sound", y.left(2, 3, 1), 0);
        due("18 bad ahead", y.left(1, 1, 1), BAD);
    }

    private static void promise19Best() {
        TenseLines x = told("d;/d;/d;");
        for (int what : new int[] {-1, 3, MIN, MAX}) {
            due("19 bad", x.best(what), BAD);
        }
        best("d;/d;/d;", 0, 1, 5);
        best("d;/d;/d;/d;", 0, 1, 31);
        // A < B, C open: asked of A and C, 3 orders have A ahead, 1 at once, 1 behind; B and C likewise.
        best("d;/d;/d;A<B;", 0, 2, 3);
        // A < B < C, D open to all: B halves best.
        best("d;/d;/d;/d;A<B;B<C;", 1, 3, 3);
        best("d;/d;/d;/d;/d;/d;/d;/d;", 0, 1, 249271);
        best("d;=d;/d;", 0, 2, 1);
        best("d;+d;", NONE, NONE, NONE);
        best("d;", NONE, NONE, NONE);
        best("", NONE, NONE, NONE);
        best("d;/d;/d;N<A;", NONE, NONE, NONE);
    }

    private static void best(String text, int a, int b, int worst) {
        TenseLines x = told(text);
        due("19 a of " + text, x.best(0), a);
        due("19 b of " + text, x.best(1), b);
        due("19 worst of " + text, x.best(2), worst);
    }

    private static void promise20Sees() {
        TenseLines x = told("d;/d;");
        int[][] bad = {{-1, 0, 0}, {5, 0, 0}, {0, -1, 0}, {0, 5, 0}, {0, 1, -1}, {0, 1, 5}, {MIN, 0, 0}, {0, MAX, 0},
            {0, 0, MIN}};
        for (int[] b : bad) {
            due("20 bad", x.sees(b[0], b[1], b[2]), BAD);
        }
        due("20 nothing seen", x.count(3), 0);
        due("20 looks too", x.sees(1, 3, 0), 1);
        due("20 itself", x.sees(4, 4, 2), 2);
        due("20 r 4", x.sees(0, 2, 4), 3);
        due("20 again", x.sees(0, 2, 4), 4);
        due("20 again", x.sees(0, 2, 1), 5);
        due("20 the sixth", x.sees(0, 2, 3), 6);
        due("20 full", x.sees(0, 2, 3), FULL);
        due("20 bad ahead of full", x.sees(0, 5, 3), BAD);
        due("20 count", x.count(3), 6);
        due("20 nothing done", x.count(5), 0);
        TenseLines none = new TenseLines();
        due("20 NOW alone", none.sees(0, 0, 2), 1);
        due("20 no clause", none.sees(0, 1, 2), BAD);
    }

    private static void promise21Forget() {
        TenseLines x = told("d;/d;A<B;");
        due("21 none", x.forget(), 0);
        x.sees(2, 4, 0);
        x.sees(2, 4, 1);
        due("21 nothing fits", x.unseen(), 0);
        due("21 two", x.forget(), 2);
        due("21 all fit", x.unseen(), 7);
        due("21 none", x.forget(), 0);
        due("21 anew", x.sees(2, 4, 0), 1);
        due("21 by the new alone", x.unseen(), 4);
    }

    private static void promise22Unseen() {
        due("22 no statements", new TenseLines().unseen(), 0);
        TenseLines x = told("d;/d;/d;A<B;B<C;C<A;");
        due("22 nothing seen", x.unseen(), 63);
        x.sees(2, 4, 1);
        due("22 B<C or C<A", x.unseen(), 48);
        x.sees(6, 2, 1);
        due("22 B<C", x.unseen(), 16);
        x.says(2, 0, 4);
        due("22 as they are now", x.unseen(), 16);
        x.undo();
        x.takes(4);
        due("22 numbers as they are now", x.unseen(), 7);
        x.forget();
        x.sees(2, 6, 3);
        due("22 all but C<A", x.unseen(), 0b01111);
        x.forget();
        x.sees(0, 4, 0);
        due("22 the clause's own tense", x.unseen(), 0b00010);
        x.forget();
        x.sees(2, 2, 2);
        due("22 itself", x.unseen(), 0b11111);
        TenseLines y = told("d;/d;A<B;A<B;B<A;");
        y.sees(0, 0, 4);
        due("22 still not sound", y.unseen(), 0b01111);
        y.sees(2, 4, 1);
        due("22 none", y.unseen(), 0);
        TenseLines z = told("d;+d;+d;");
        z.sees(1, 5, 0);
        due("22 links", z.unseen(), 0b110);
        z.sees(3, 4, 2);
        due("22 tense goes with the link", z.unseen(), 0b100);
    }

    private static void promise23Keep() {
        TenseLines x = told("d;/d;A<B;");
        for (int image : new int[] {-1, 2, MIN, MAX}) {
            due("23 bad", x.keep(image), BAD);
        }
        due("23 keep 0", x.keep(0), 3);
        x.says(4, 0, 2);
        due("23 keep 1", x.keep(1), 4);
        due("23 undo stays", x.count(5), 1);
        x.takes(3);
        x.takes(2);
        due("23 keep over", x.keep(0), 2);
        due("23 back 1", x.back(1), 4);
        due("23 back 0", x.back(0), 2);
        due("23 none", new TenseLines().keep(1), 0);
    }

    private static void promise24Back() {
        TenseLines x = told("d;A<N;/h;");
        for (int image : new int[] {-1, 2, MIN, MAX}) {
            due("24 bad", x.back(image), BAD);
        }
        due("24 state", x.back(0), STATE);
        x.keep(1);
        due("24 state", x.back(0), STATE);
        String kept = face(x);
        x.takes(1);
        x.says(4, 1, 2);
        x.says(4, 1, 0);
        x.tenses(1, 7);
        x.links(1, 0);
        x.sees(0, 0, 2);
        x.type('d');
        String before = face(x);
        due("24 refused", x.back(0), STATE);
        same("24 refused changes nothing", face(x), before);
        due("24 back", x.back(1), 3);
        due("24 nothing can be undone", x.undo(), STATE);
        due("24 seen stays", x.count(3), 1);
        due("24 the text stays", x.count(4), 1);
        x.forget();
        x.clear();
        same("24 as kept", face(x), kept);
        x.tenses(0, 3);
        due("24 back again", x.back(1), 3);
        same("24 as kept", face(x), kept);
    }

    private static void promise25Count() {
        TenseLines x = told("d;A<N;/h;A=B;/d;");
        x.says(2, 0, 4);
        x.tenses(0, 1);
        x.sees(0, 0, 2);
        x.type(' ');
        x.type('d');
        x.type('d');
        x.type('d');
        int[] want = {3, 3, 6, 1, 4, 2};
        for (int what = 0; what < 6; what++) {
            due("25 count " + what, x.count(what), want[what]);
        }
        for (int what : new int[] {-1, 6, MIN, MAX}) {
            due("25 bad", x.count(what), BAD);
        }
    }

    public static void main(String[] args) {
        promise1NewObject();
        promise2Type();
        promise3Clear();
        promise4Reads();
        promise5Clause();
        promise6Statement();
        promise7Says();
        promise8Takes();
        promise9Tenses();
        promise10Links();
        promise11Undo();
        promise12Sound();
        promise13Clash();
        promise14Known();
        promise15Line();
        promise16Would();
        promise17Orders();
        promise18Left();
        promise19Best();
        promise20Sees();
        promise21Forget();
        promise22Unseen();
        promise23Keep();
        promise24Back();
        promise25Count();
        finish("all promises hold");
    }
}
