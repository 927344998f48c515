/**
 * What is known, and which STATEMENT is wrong: each sentence of "Terms" and of promises 12 to 19 and 22
 * that names an edge, with a test of its own that has the sentence above it. What is refused and that
 * nothing changes then is in RefusedTest.
 */
public final class KnownBoundsTest extends Checks {
    private static final String EIGHT_OPEN = "d;/d;/d;/d;/d;/d;/d;/d;";
    private static final String EIGHT_IN_A_ROW = "d;+d;+d;+d;+d;+d;+d;+d;";
    private static final String EIGHT_AT_ONCE = "p;=p;=p;=p;=p;=p;=p;=p;";
    /** EVENT, LOOK, LOOK, EVENT, the next two CLAUSES and so on: sixteen TIMES in one row. */
    private static final String LONGEST = "h;+w;/h;+w;/h;+w;/h;+w;B<C;D<E;F<G;";
    /** KNOWN of two EVENTS is 0, 1, 2 and 3 of some. */
    private static final String WITH_ALL_KINDS = "d;=d;+h;/w;D<A;";
    private static final int[] LONGEST_ROW = {2, 1, 3, 4, 6, 5, 7, 8, 10, 9, 11, 12, 14, 13, 15, 16};

    private static int look(int c) {
        return 1 + 2 * c;
    }

    private static int event(int c) {
        return 2 + 2 * c;
    }

    // ---- SOUND, CLASH

    /** Nothing told can always be so. */
    private static void noStatementsAreSound() {
        due("sound() of a new object", new TenseLines().sound(), 1);
        due("clash(0) of a new object", new TenseLines().clash(0), NONE);
        due("clash(1) of a new object", new TenseLines().clash(1), NONE);
        due("sound() of blanks", told("   ").sound(), 1);
    }

    /** One CLAUSE alone is always SOUND, whatever its TENSE. */
    private static void oneClauseIsSound() {
        TenseLines x = told("d;");
        for (int tense = 0; tense < 8; tense++) {
            x.tenses(0, tense);
            due("sound() of TENSE " + tense, x.sound(), 1);
            due("clash(0) of TENSE " + tense, x.clash(0), NONE);
        }
    }

    /** "NONE: STATEMENTS are SOUND": of as many STATEMENTS as there can be, too. */
    private static void noClashOfFourteen() {
        TenseLines x = Start.WHOLE.make();
        due("clash(0)", x.clash(0), NONE);
        due("clash(1)", x.clash(1), NONE);
    }

    /** "one with the fewest STATEMENTS, of several the least as bits (bit k: STATEMENT k)". */
    private static void theFewestThenTheLeast() {
        clash("d;N<A;", 0b11);
        clash("d;/d;A<B;B<A;B=A;", 0b01100);
        clash("d;/d;A<B;B<A;N<A;", 0b01100);
        clash("d;N<A;/d;A<B;B<A;", 0b00011);
        clash("d;/d;B=A;N<A;N<B;A<B;", 0b001001);
        clash("d;/d;/d;A<B;B<C;C<A;/d;D<A;A<D;", 0b110000000);
        clash("d;/d;/d;/d;/d;A<B;B<C;C<A;D<E;E<D;", 0b1100000000);
        clash("d;/d;/d;/d;/d;A<B;B<A;C<D;D<E;E<C;", 0b0001100000);
        clash("d;/d;/d;A<B;B<C;C<A;C=A;", 0b1100000);
        clash("d;/d;/d;A<B;B<C;C<B;C=A;", 0b0110000);
    }

    /** The last STATEMENT there can be is bit 13. */
    private static void theHighestBits() {
        clash(EIGHT_OPEN + "A<B;A<B;A<B;A<B;A<C;C<A;", 0b11000000000000);
        clash("d;A<N;A<N;A<N;A<N;A<N;/d;/d;/d;/d;/d;/d;/d;N<H;", 0b11000000000000);
    }

    /** The most STATEMENTS that the fewest can be: each CLAUSE and four SAYINGS. */
    private static void theLargestClash() {
        clash(LONGEST + "H<A;", 0b111111111111);
        clash(LONGEST + "H=A;", 0b111111111111);
        due("sound() without the last one", told(LONGEST).sound(), 1);
    }

    private static void clash(String text, int set) {
        TenseLines x = told(text);
        due("clash(0) of " + text, x.clash(0), set);
        due("clash(1) of " + text, x.clash(1), Integer.bitCount(set));
        due("sound() of " + text, x.sound(), 0);
    }

    // ---- KNOWN, THE EARLIEST LINE

    /** "(p and p: 2.)": of NOW alone, and of each of seventeen TIMES. */
    private static void ofATimeAndItself() {
        due("known(0, 0) without CLAUSES", new TenseLines().known(0, 0), 2);
        TenseLines x = told(EIGHT_OPEN);
        for (int p = 0; p <= 16; p++) {
            due("known(" + p + ", " + p + ")", x.known(p, p), 2);
        }
        due("known(17, 17)", x.known(17, 17), BAD);
    }

    /** "By a set that is not SOUND: 4 of any two (of p and p, too)." */
    private static void fourOfAnyTwo() {
        TenseLines x = told(EIGHT_OPEN + "N<H;");
        for (int p = 0; p <= 16; p++) {
            for (int q = 0; q <= 16; q++) {
                due("known(" + p + ", " + q + ") not SOUND", x.known(p, q), 4);
            }
        }
        due("BAD all the same", x.known(17, 0), BAD);
        due("BAD all the same", x.known(0, -1), BAD);
    }

    /** "1: p is ahead of q wherever ..; 2: at once; 3: behind; 0: none of these": over all CLAUSES. */
    private static void fromTheFirstToTheLastClause() {
        TenseLines row = told(EIGHT_IN_A_ROW);
        TenseLines once = told(EIGHT_AT_ONCE);
        TenseLines open = told(EIGHT_OPEN);
        for (int a = 0; a < 8; a++) {
            for (int b = 0; b < 8; b++) {
                int want = a < b ? 1 : a == b ? 2 : 3;
                due("in a row " + a + " " + b, row.known(event(a), event(b)), want);
                due("LOOKS in a row " + a + " " + b, row.known(look(a), look(b)), want);
                due("at once " + a + " " + b, once.known(event(a), look(b)), 2);
                due("open " + a + " " + b, open.known(event(a), event(b)), a == b ? 2 : 0);
                due("open LOOKS " + a + " " + b, open.known(event(a), look(b)), a == b ? 2 : 0);
            }
            due("ahead of NOW " + a, row.known(event(a), 0), 1);
            due("NOW behind " + a, row.known(0, event(a)), 3);
            due("at once with NOW " + a, once.known(0, event(a)), 2);
        }
    }

    /** "A LINK tells of LOOKS of the CLAUSE ahead and of this one": of no others; "/ (3): nothing". */
    private static void aLinkTellsOfTwoLooks() {
        int[] want = {1, 2, 3, 0};
        for (int c = 1; c < 8; c++) {
            TenseLines x = told("w;/w;/w;/w;/w;/w;/w;/w;");
            for (int link = 0; link < 4; link++) {
                x.links(c, link);
                due("LOOKS by LINK " + link, x.known(look(c - 1), look(c)), want[link]);
                due("EVENTS stay open", x.known(event(c - 1), event(c)), 0);
                due("the next LOOK stays open", c < 7 ? x.known(look(c), look(c + 1)) : 0, 0);
                due("the LOOK ahead stays open", c > 1 ? x.known(look(c - 2), look(c - 1)) : 0, 0);
            }
        }
    }

    /** "A TENSE tells": of the EVENT and the LOOK of its own CLAUSE, and of NOW; the first and the last one. */
    private static void eachTenseOfTheFirstAndTheLast() {
        int[] eventToLook = {2, 1, 3, 2, 1, 3, 2, 1};
        int[] lookToNow = {1, 1, 1, 2, 2, 2, 3, 3};
        int[] eventToNow = {1, 1, 0, 2, 1, 3, 3, 0};
        for (int c : new int[] {0, 7}) {
            TenseLines x = told(EIGHT_OPEN);
            for (int tense = 0; tense < 8; tense++) {
                x.tenses(c, tense);
                due("EVENT to LOOK of " + tense, x.known(event(c), look(c)), eventToLook[tense]);
                due("LOOK to NOW of " + tense, x.known(look(c), 0), lookToNow[tense]);
                due("EVENT to NOW of " + tense, x.known(event(c), 0), eventToNow[tense]);
                due("another stays", x.known(event(3), 0), 1);
            }
        }
    }

    /** "each TIME has a whole number, from 0 on": NOW alone, and the longest row there can be. */
    private static void fromZeroToSixteen() {
        due("line(0) without CLAUSES", new TenseLines().line(0), 0);
        TenseLines x = told(LONGEST + "H<N;");
        TenseLines y = told(LONGEST + "N<H;");
        for (int i = 0; i < 16; i++) {
            due("the row's TIME " + i, x.line(LONGEST_ROW[i]), i);
            due("with NOW last but one, TIME " + i, y.line(LONGEST_ROW[i]), i < 15 ? i : 16);
        }
        due("NOW last", x.line(0), 16);
        due("NOW last but one", y.line(0), 15);
        TenseLines once = told(EIGHT_AT_ONCE);
        for (int p = 0; p <= 16; p++) {
            due("all at once, TIME " + p, once.line(p), 0);
        }
        due("line(17)", once.line(17), BAD);
    }

    /** "the least that can be, TIMES that are ahead having lesser ones, those at once the same". */
    private static void theLeastThatCanBe() {
        for (Start start : new Start[] {Start.EMPTY, Start.ONE, Start.MIDDLE, Start.WHOLE}) {
            TenseLines x = start.make();
            int[] line = new int[start.lastTime() + 1];
            for (int p = 0; p < line.length; p++) {
                line[p] = x.line(p);
            }
            for (int p = 0; p < line.length; p++) {
                int least = 0;
                for (int q = 0; q < line.length; q++) {
                    int known = x.known(q, p);
                    least = known == 1 ? Math.max(least, line[q] + 1) : least;
                    due(start + ": at once " + p + " " + q, known == 2 ? line[q] : line[p], line[p]);
                }
                due(start + ": line(" + p + ")", line[p], least);
            }
        }
    }

    /** "NONE: not SOUND. BAD": BAD goes ahead. */
    private static void noLineIfNotSound() {
        TenseLines x = Start.UNSOUND.make();
        for (int p = 0; p <= 4; p++) {
            due("line(" + p + ")", x.line(p), NONE);
        }
        due("line(-1)", x.line(-1), BAD);
        due("line(5)", x.line(5), BAD);
    }

    // ---- would

    /** "0 .., 1 .., 2 they would not be SOUND": just as says() would have it, for all that can be said. */
    private static void wouldIsAsSaysHasIt() {
        TenseLines x = told(WITH_ALL_KINDS);
        for (int p = 0; p <= 8; p += 2) {
            for (int q = 0; q <= 8; q += 2) {
                for (int sign = 0; sign <= 1 && p != q; sign++) {
                    TenseLines y = told(WITH_ALL_KINDS);
                    boolean so = y.known(p, q) == 1 + sign;
                    y.says(p, sign, q);
                    int want = so ? 0 : y.sound() == 1 ? 1 : 2;
                    due("would(" + p + ", " + sign + ", " + q + ")", x.would(p, sign, q), want);
                }
            }
        }
    }

    /** It asks only what would be: six SAYINGS do not make it FULL. */
    private static void wouldIsNeverFull() {
        TenseLines x = told("d;/d;/d;A<B;A<B;A<B;A<B;A<B;A<B;");
        due("FULL for says()", x.says(2, 0, 6), FULL);
        due("so anyway", x.would(2, 0, 4), 0);
        due("more", x.would(2, 0, 6), 1);
        due("not SOUND", x.would(4, 1, 2), 2);
    }

    /** "4: they are not SOUND now": whatever would be said; BAD goes ahead. */
    private static void wouldOfWhatIsNotSound() {
        TenseLines x = Start.UNSOUND.make();
        for (int p = 0; p <= 4; p += 2) {
            for (int q = 0; q <= 4; q += 2) {
                due("would(" + p + ", 0, " + q + ")", x.would(p, 0, q), p == q ? BAD : 4);
                due("would(" + p + ", 1, " + q + ")", x.would(p, 1, q), p == q ? BAD : 4);
            }
        }
    }

    // ---- ORDERS, BEST

    /** "1 without CLAUSES; 0, if STATEMENTS are not SOUND"; the least and the most of eight. */
    private static void theLeastAndTheMostOrders() {
        due("without CLAUSES", new TenseLines().orders(), 1);
        due("one CLAUSE", told("w;").orders(), 1);
        due("not SOUND", told("d;N<A;").orders(), 0);
        due("eight, not SOUND", told(EIGHT_OPEN + "N<H;").orders(), 0);
        due("eight in a row", told(EIGHT_IN_A_ROW).orders(), 1);
        due("eight at once", told(EIGHT_AT_ONCE).orders(), 1);
        due("eight open", told(EIGHT_OPEN).orders(), 545835);
        due("eight, two of them at once", told(EIGHT_OPEN + "A=H;").orders(), 47293);
        due("eight, one ahead of another", told(EIGHT_OPEN + "H<A;").orders(), 249271);
    }

    /** Not SOUND by LOOKS and NOW alone: EVENTS could come in some order, but none is left. */
    private static void notSoundByLooksAlone() {
        TenseLines x = told("v;-v;/v;");
        due("sound()", x.sound(), 0);
        due("orders()", x.orders(), 0);
        for (int answer = 0; answer <= 2; answer++) {
            due("left(0, 2, " + answer + ")", x.left(0, 2, answer), 0);
            due("best(" + answer + ")", x.best(answer), NONE);
        }
        due("known(2, 6)", x.known(2, 6), 4);
        due("would(2, 0, 6)", x.would(2, 0, 6), 4);
    }

    /** "(LOOKS and NOW are not looked at)". */
    private static void onlyEventsAreLookedAt() {
        due("an EVENT open to NOW", told("u;").orders(), 1);
        due("EVENTS open, LOOKS in a row", told("w;+w;").orders(), 3);
        due("EVENTS open, LOOKS open", told("w;/w;").orders(), 3);
        due("LOOKS open, EVENTS told", told("w;/w;A<B;").orders(), 1);
        due("EVENTS parted by NOW alone", told("u;/w;A<N;N<B;").orders(), 1);
    }

    /** "a's is ahead, 1: at once, 2: behind": the three make up all ORDERS, whichever is asked first. */
    private static void threeAnswersMakeUpAll() {
        for (Start start : new Start[] {Start.MIDDLE, Start.WHOLE, Start.UNSOUND}) {
            TenseLines x = start.make();
            int last = start.clauses - 1;
            for (int c = 0; c < last; c++) {
                int sum = x.left(c, last, 0) + x.left(c, last, 1) + x.left(c, last, 2);
                due(start + ": the three of " + c + " and the last", sum, x.orders());
                due(start + ": turned", x.left(last, c, 2), x.left(c, last, 0));
                due(start + ": turned at once", x.left(last, c, 1), x.left(c, last, 1));
            }
        }
        TenseLines open = told(EIGHT_OPEN);
        due("ahead of eight open", open.left(0, 7, 0), 249271);
        due("at once of eight open", open.left(7, 0, 1), 47293);
        due("behind of eight open", open.left(7, 0, 2), 249271);
    }

    /** What KNOWN tells leaves all by its answer and none by the others; what is not SOUND leaves none. */
    private static void leftOfWhatIsKnown() {
        TenseLines x = told("d;+d;=d;/d;");
        int all = x.orders();
        int[][] want = {{all, 0, 0}, {0, all, 0}, {0, 0, all}};
        int[][] two = {{0, 1}, {1, 2}, {2, 0}};
        TenseLines not = told("d;/d;N<A;");
        TenseLines one = told("d;+d;");
        for (int i = 0; i < 3; i++) {
            for (int answer = 0; answer < 3; answer++) {
                due("left() of known " + i, x.left(two[i][0], two[i][1], answer), want[i][answer]);
                due("left() of one ORDER", one.left(0, 1, answer), answer == 0 ? 1 : 0);
                due("left() not SOUND", not.left(i % 2, 1 - i % 2, answer), 0);
            }
        }
    }

    /** "NONE: there are none"; "NONE (STATEMENTS not SOUND, too)". */
    private static void noBest() {
        for (String text : new String[] {"", "w;", "d;+d;", "d;=d;", EIGHT_IN_A_ROW, EIGHT_AT_ONCE, "d;/d;N<A;",
            EIGHT_OPEN + "A<B;B<A;"}) {
            best(text, NONE, NONE, NONE);
        }
    }

    /** "with the least WORST; of several the lowest a, then b"; the first two and the last two. */
    private static void theLeastWorstThenTheLowest() {
        best("d;/d;", 0, 1, 1);
        best("d;/d;/d;", 0, 1, 5);
        best("d;/d;/d;B=C;", 0, 1, 1);
        best("d;/d;/d;A=B;", 0, 2, 1);
        best("d;/d;/d;A<B;", 0, 2, 3);
        best("d;/d;/d;B<A;", 0, 2, 3);
        best("d;/d;/d;/d;A<B;B<C;", 1, 3, 3);
        best("d;/d;/d;/d;D<C;C<B;", 0, 2, 3);
        best("d;+d;+d;+d;+d;+d;+d;/d;F<H;", 6, 7, 1);
        best(EIGHT_OPEN, 0, 1, 249271);
    }

    private static void best(String text, int a, int b, int worst) {
        TenseLines x = told(text);
        due("best(0) of " + text, x.best(0), a);
        due("best(1) of " + text, x.best(1), b);
        due("best(2) of " + text, x.best(2), worst);
        due("best(-1) of " + text, x.best(-1), BAD);
        due("best(3) of " + text, x.best(3), BAD);
    }

    // ---- UNSEEN

    /** "STATEMENTS (bits) by which all that was SEEN is so": nothing SEEN is so by each of them. */
    private static void unseenWithNothingSeen() {
        due("no STATEMENTS", new TenseLines().unseen(), 0);
        due("one", told("d;").unseen(), 1);
        due("fourteen", told(EIGHT_OPEN + "A<B;A<B;A<B;A<B;A<B;A<B;").unseen(), 0b11111111111111);
        due("not SOUND", told("d;N<A;").unseen(), 0b11);
    }

    /** Without STATEMENTS none can be left out, whatever was SEEN. */
    private static void unseenWithoutStatements() {
        for (int r = 0; r <= 4; r++) {
            TenseLines x = new TenseLines();
            x.sees(0, 0, r);
            due("SEEN " + r, x.unseen(), 0);
        }
    }

    /** "KNOWN would be r (0 to 4), were one .. STATEMENT left out": each r; the only one left out, too. */
    private static void unseenByEachAnswer() {
        unseen("d;", 2, 0, new int[] {0b1, 0, 0, 0, 0});
        unseen("d;", 0, 0, new int[] {0, 0, 0b1, 0, 0});
        unseen("d;N<A;", 2, 0, new int[] {0, 0b10, 0, 0b01, 0});
        unseen("d;N=A;", 2, 0, new int[] {0, 0b10, 0b01, 0, 0});
        unseen("d;N<A;N<A;", 2, 0, new int[] {0, 0, 0, 0b001, 0b110});
        unseen("d;N<A;N<A;", 2, 2, new int[] {0, 0, 0b001, 0, 0b110});
        unseen(EIGHT_OPEN + "A<B;A<C;A<D;A<E;A<F;G<H;", 14, 16, new int[] {0b10000000000000, 0b1111111111111, 0, 0, 0});
    }

    private static void unseen(String text, int p, int q, int[] want) {
        for (int r = 0; r <= 4; r++) {
            TenseLines x = told(text);
            x.sees(p, q, r);
            due("UNSEEN of " + text + " by " + r, x.unseen(), want[r]);
        }
    }

    /** "A CLAUSE's STATEMENT is its TENSE and its LINK": left out, neither tells anything. */
    private static void tenseAndLinkAreLeftOut() {
        unseen("d;+d;", 4, 3, new int[] {0b10, 0, 0b01, 0, 0});
        unseen("d;+d;", 1, 3, new int[] {0b10, 0b01, 0, 0, 0});
        unseen("d;+d;+d;", 1, 5, new int[] {0b110, 0b001, 0, 0, 0});
        unseen("d;+d;", 3, 0, new int[] {0b10, 0b01, 0, 0, 0});
    }

    /** "all that was SEEN": the first and the sixth count as the rest. */
    private static void allOfSixAreLookedAt() {
        for (int other = 0; other < 6; other++) {
            TenseLines x = told("d;/d;A<B;");
            for (int i = 0; i < 6; i++) {
                x.sees(2, 4, i == other ? 0 : 1);
            }
            due("one of six is other, " + other, x.unseen(), 0);
        }
    }

    /** "STATEMENTS being as they are when it is asked": behind each kind of change. */
    private static void unseenAsItIsNow() {
        TenseLines x = told("d;/d;A<B;");
        x.sees(2, 4, 1);
        due("as told", x.unseen(), 0b011);
        x.keep(0);
        x.says(2, 0, 4);
        due("behind says()", x.unseen(), 0b1111);
        x.undo();
        due("behind undo()", x.unseen(), 0b011);
        x.takes(2);
        due("behind takes()", x.unseen(), 0);
        x.links(1, 0);
        due("behind links()", x.unseen(), 0);
        x.tenses(1, 6);
        due("behind tenses()", x.unseen(), 0);
        x.back(0);
        due("behind back()", x.unseen(), 0b011);
        read(x, "d;/d;");
        due("behind reads()", x.unseen(), 0b11);
    }

    /** The same of what is known: an answer given once is not given again when STATEMENTS have changed. */
    private static void knownAsItIsNow() {
        TenseLines x = told("d;/d;");
        now(x, "as told", 0, 3, 1);
        x.keep(0);
        x.says(2, 0, 4);
        now(x, "behind says()", 1, 1, 2);
        x.links(1, 1);
        now(x, "behind links()", 4, 0, NONE);
        x.takes(2);
        now(x, "behind takes()", 2, 1, 1);
        x.tenses(0, 1);
        now(x, "behind tenses()", 1, 1, 2);
        x.undo();
        now(x, "behind undo()", 2, 1, 1);
        x.back(0);
        now(x, "behind back()", 0, 3, 1);
        read(x, "f;-f;");
        now(x, "behind reads()", 3, 1, 0);
    }

    private static void now(TenseLines x, String when, int known, int orders, int line) {
        due(when + ": known(2, 4)", x.known(2, 4), known);
        due(when + ": orders()", x.orders(), orders);
        due(when + ": line(0)", x.line(0), line);
        due(when + ": sound()", x.sound(), known == 4 ? 0 : 1);
        due(when + ": best(0)", x.best(0), known == 0 ? 0 : NONE);
    }

    public static void main(String[] args) {
        noStatementsAreSound();
        oneClauseIsSound();
        noClashOfFourteen();
        theFewestThenTheLeast();
        theHighestBits();
        theLargestClash();
        ofATimeAndItself();
        fourOfAnyTwo();
        fromTheFirstToTheLastClause();
        aLinkTellsOfTwoLooks();
        eachTenseOfTheFirstAndTheLast();
        fromZeroToSixteen();
        theLeastThatCanBe();
        noLineIfNotSound();
        wouldIsAsSaysHasIt();
        wouldIsNeverFull();
        wouldOfWhatIsNotSound();
        theLeastAndTheMostOrders();
        notSoundByLooksAlone();
        onlyEventsAreLookedAt();
        threeAnswersMakeUpAll();
        leftOfWhatIsKnown();
        noBest();
        theLeastWorstThenTheLowest();
        unseenWithNothingSeen();
        unseenWithoutStatements();
        unseenByEachAnswer();
        tenseAndLinkAreLeftOut();
        allOfSixAreLookedAt();
        unseenAsItIsNow();
        knownAsItIsNow();
        finish("the edges of what is known hold");
    }
}
