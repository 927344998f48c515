/**
 * THE TEXT: each sentence of "Terms" and of promises 2 to 4 that names an edge, with a test of its own
 * that has the sentence above it. What is refused and that nothing changes then is in RefusedTest.
 */
public final class TextBoundsTest extends Checks {
    private static final String EIGHT_CLAUSES = "d;/d;/d;/d;/d;/d;/d;/d;";
    private static final String SEVEN_CLAUSES = "d;/d;/d;/d;/d;/d;/d;";
    private static final String SIX_SAYINGS = "A<N;A<N;A<N;A<N;A<N;A<N;";
    private static final String FIVE_SAYINGS = "A<N;A<N;A<N;A<N;A<N;";
    private static final String TENSES = "dhwpvgfu";
    private static final String LINKS = "+=-/";

    private static void fault(String text, int place) {
        due("the FAULT of '" + text + "'", read(new TenseLines(), text), -10 - place);
    }

    private static void items(String text, int items) {
        due("the ITEMS of '" + text + "'", read(new TenseLines(), text), items);
    }

    /** Which of all 256 letters can stand behind a text: the blank always, else those told. */
    private static void standBehind(String text, String letters) {
        for (int letter = 0; letter <= 255; letter++) {
            TenseLines x = new TenseLines();
            type(x, text);
            x.type(letter);
            boolean stands = x.reads() != -10 - text.length();
            if (stands != (letter == 32 || letters.indexOf(letter) >= 0)) {
                report("letter " + letter + " behind '" + text + "' " + (stands ? "stands" : "can't stand"));
            }
        }
    }

    /** "A letter (0 .. 255) comes to THE TEXT: how many it has." */
    private static void everyLetterComes() {
        for (int letter = 0; letter <= 255; letter++) {
            TenseLines x = new TenseLines();
            due("type(" + letter + ") as the first", x.type(letter), 1);
            due("type(" + letter + ") as the second", x.type(letter), 2);
            due("letters of THE TEXT", x.count(4), 2);
        }
    }

    /** "FULL: 80": the 80th comes, the 81st does not; blanks are letters here. */
    private static void eightyLettersAtMost() {
        for (char letter : new char[] {'d', ' ', 0, 255}) {
            TenseLines x = new TenseLines();
            for (int n = 1; n <= 80; n++) {
                due("type() number " + n, x.type(letter), n);
                due("letters of THE TEXT", x.count(4), n);
            }
            due("type() number 81", x.type(letter), FULL);
            due("type() number 82", x.type(letter), FULL);
            due("letters when FULL", x.count(4), 80);
            due("clear() when FULL", x.clear(), 80);
            due("type() behind clear()", x.type(letter), 1);
        }
    }

    /** The refused 81st letter is not read, nor does it write over another. */
    private static void theLetterRefusedIsNotRead() {
        TenseLines x = new TenseLines();
        type(x, "d" + blanks(79));
        due("the end as the 81st", x.type(';'), FULL);
        due("not ended", x.reads(), -10 - 80);
        TenseLines y = new TenseLines();
        type(y, "d;" + blanks(78));
        due("a wrong letter as the 81st", y.type('x'), FULL);
        due("read without it", y.reads(), 1);
    }

    /** "They are a text (80 letters at most)": 80 letters are read, the last of them too. */
    private static void eightyLettersAreRead() {
        String all = EIGHT_CLAUSES + "A<B;A<C;A<D;A<E;A<F;";
        items(all + "A=H;" + blanks(80 - all.length() - 4), 14);
        items(all + blanks(80 - all.length() - 4) + "A=H;", 14);
        items(blanks(78) + "d;", 1);
        fault(blanks(79) + "d", 80);
        fault(blanks(79) + ";", 79);
        fault(blanks(78) + "dx", 79);
        fault("x" + blanks(79), 0);
    }

    /** "THE TEXT is empty: how many letters it had." */
    private static void clearTellsHowManyThereWere() {
        TenseLines x = new TenseLines();
        due("clear() of a new object", x.clear(), 0);
        for (int n = 1; n <= 80; n++) {
            TenseLines y = new TenseLines();
            type(y, blanks(n));
            due("clear() of " + n, y.clear(), n);
            due("clear() again", y.clear(), 0);
            due("letters behind clear()", y.count(4), 0);
        }
        type(x, "x");
        x.clear();
        type(x, "d;");
        due("what was cleared is not read", x.reads(), 1);
    }

    /** "CLAUSES 0, 1, .. (never more than 8)"; "the first letter of a ninth CLAUSE". */
    private static void eightClausesAtMost() {
        StringBuilder text = new StringBuilder();
        for (int n = 1; n <= 8; n++) {
            text.append(n == 1 ? "d;" : "+d;");
            TenseLines x = told(text.toString());
            due("CLAUSES", x.count(0), n);
            due("STATEMENT of the last", x.clause(n - 1, 2), n - 1);
            due("one more", x.clause(n, 0), BAD);
        }
        for (char link : LINKS.toCharArray()) {
            fault(EIGHT_CLAUSES + link, 23);
            fault(EIGHT_CLAUSES + link + "d;", 23);
            fault(EIGHT_CLAUSES + "  " + link + "d;", 25);
            fault(EIGHT_CLAUSES + "A<B;" + link + "d;", 27);
        }
    }

    /** "SAYINGS (never more than 6)"; "of a seventh SAYING". */
    private static void sixSayingsAtMost() {
        StringBuilder text = new StringBuilder("d;");
        for (int n = 1; n <= 6; n++) {
            text.append("N=A;");
            due("SAYINGS", told(text.toString()).count(1), n);
        }
        for (String first : new String[] {"A", "N", "A<N;", "N=A;"}) {
            fault("d;" + SIX_SAYINGS + first, 26);
            fault("d;" + SIX_SAYINGS + "   " + first, 29);
            fault("d;" + SIX_SAYINGS + "/d;" + first, 29);
        }
        fault(EIGHT_CLAUSES + SIX_SAYINGS + "H<A;", 47);
    }

    /** The limits of CLAUSES and of SAYINGS are two: one that is reached does not touch the other. */
    private static void eachLimitIsItsOwn() {
        items("d;" + SIX_SAYINGS + "/d;", 8);
        items("d;" + SIX_SAYINGS + "/d;/d;/d;/d;/d;/d;/d;", 14);
        items(EIGHT_CLAUSES + SIX_SAYINGS, 14);
        items(EIGHT_CLAUSES + "H=N;", 9);
        items("d;A<N;/d;B<N;/d;C<N;/d;D<N;/d;E<N;/d;F<N;/d;/d;", 14);
    }

    /** "have TENSES, and LINKS (the first one none)"; "a TENSE (of the first CLAUSE)". */
    private static void theFirstClauseHasNoLink() {
        for (char tense : TENSES.toCharArray()) {
            TenseLines x = told(tense + ";");
            due("TENSE of '" + tense + "'", x.clause(0, 0), TENSES.indexOf(tense));
            due("LINK of the first one", x.clause(0, 1), NONE);
        }
        for (char link : LINKS.toCharArray()) {
            fault(link + "d;", 0);
        }
    }

    /** "a LINK and a TENSE (of each other one)". */
    private static void eachOtherClauseHasALink() {
        for (char tense : TENSES.toCharArray()) {
            fault("d;" + tense + ";", 2);
            for (char link : LINKS.toCharArray()) {
                TenseLines x = told("d;" + link + tense + ";");
                due("TENSE of '" + link + tense + "'", x.clause(1, 0), TENSES.indexOf(tense));
                due("LINK of '" + link + tense + "'", x.clause(1, 1), LINKS.indexOf(link));
            }
        }
        fault("d;+;", 3);
        fault("d;++d;", 3);
        fault("d;d+;", 2);
    }

    /** "a blank (32) may stand anywhere and is passed over": but no letter beside it. */
    private static void blanksArePassedOver() {
        String text = "d;+h;A<B;N=A;";
        String shape = shape(told(text));
        for (int i = 0; i <= text.length(); i++) {
            String wide = text.substring(0, i) + "   " + text.substring(i);
            same("with blanks at " + i, shape(told(wide)), shape);
            fault(text.substring(0, i) + (char) 31 + text.substring(i), i);
            fault(text.substring(0, i) + (char) 33 + text.substring(i), i);
            fault(text.substring(0, i) + (char) 160 + text.substring(i), i);
        }
        same("blanks everywhere", shape(told(text.replaceAll("(.)", " $1 "))), shape);
    }

    /** "ITEMS, each ended by ;". */
    private static void eachItemIsEnded() {
        fault("d+h;", 1);
        fault("dA<N;", 1);
        fault("dd;", 1);
        fault("d;+hA<B;", 4);
        fault("d;A<NA<N;", 5);
        fault("d;A<N+h;", 5);
        fault("d:", 1);
        fault("d,", 1);
        fault(";", 0);
        fault("d;;", 2);
        fault("d;A<N;;", 6);
    }

    /** "letters are A to H for the EVENTS of CLAUSES 0 to 7 that were told ahead, N for NOW". */
    private static void lettersAreOfClausesToldAhead() {
        StringBuilder text = new StringBuilder();
        for (int n = 1; n <= 8; n++) {
            text.append(n == 1 ? "d;" : "/d;");
            char last = (char) ('A' + n - 1);
            char next = (char) ('A' + n);
            TenseLines x = told(text + "" + last + "<N;N=" + last + ";");
            due("first TIME of '" + last + "<N'", x.statement(n, 1), 2 * n);
            due("second TIME of '" + last + "<N'", x.statement(n, 3), 0);
            due("first TIME of 'N=" + last + "'", x.statement(n + 1, 1), 0);
            due("second TIME of 'N=" + last + "'", x.statement(n + 1, 3), 2 * n);
            fault(text + "" + next + "<N;", text.length());
            fault(text + "N<" + next + ";", text.length() + 2);
            fault(text + "@<N;", text.length());
            fault(text + "N<@;", text.length() + 2);
        }
        fault("d;A<B;/d;", 4);
        fault("d;B<A;/d;", 2);
        fault(EIGHT_CLAUSES + "I<A;", 23);
    }

    /** "both may not be the same": the second is the one that can't stand. */
    private static void bothMayNotBeTheSame() {
        for (int c = 0; c < 8; c++) {
            char letter = (char) ('A' + c);
            fault(EIGHT_CLAUSES + letter + "<" + letter + ";", 25);
            fault(EIGHT_CLAUSES + letter + "=" + letter + ";", 25);
        }
        fault("d;N<N;", 4);
        fault("d;N=N;", 4);
        fault("d;A< A;", 5);
        fault("N<N;", 2);
        fault("N=N;", 2);
    }

    /** "the first letter (from the left, no blank) that can't stand where it stands". */
    private static void theFirstOfSeveralFaults() {
        fault("x;y;z;", 0);
        fault("d;x;y;", 2);
        fault("d;+xy", 3);
        fault("   x", 3);
        fault("d ; + x", 6);
        fault("  d  d  ", 5);
        fault("d;A<x", 4);
        fault("d;A<N", 5);
        fault("x", 0);
    }

    /** "none of what is told here to stand there": of all 256 letters, wherever one can stand. */
    private static void whichLettersCanStand() {
        standBehind("", TENSES + "N");
        standBehind("N", "<=");
        standBehind("N<", "");
        standBehind("N=", "");
        standBehind("d", ";");
        standBehind("d;", LINKS + "AN");
        standBehind("d;+", TENSES);
        standBehind("d;/", TENSES);
        standBehind("d;+h", ";");
        standBehind("d;A", "<=");
        standBehind("d;N", "<=");
        standBehind("d;A<", "N");
        standBehind("d;N=", "A");
        standBehind("d;/d;A=", "BN");
        standBehind("d;/d;N<", "AB");
        standBehind("d;A<N", ";");
        standBehind("d;A<N;", LINKS + "AN");
        standBehind(SEVEN_CLAUSES, LINKS + "ABCDEFGN");
        standBehind(EIGHT_CLAUSES, "ABCDEFGHN");
        standBehind(EIGHT_CLAUSES + "N<", "ABCDEFGH");
        standBehind(EIGHT_CLAUSES + "H<", "ABCDEFGN");
        standBehind("d;" + FIVE_SAYINGS, LINKS + "AN");
        standBehind("d;" + SIX_SAYINGS, LINKS);
        standBehind("d;" + SIX_SAYINGS + "+", TENSES);
        standBehind(EIGHT_CLAUSES + SIX_SAYINGS, "");
    }

    /** "if all letters can stand, but the last ITEM is not ended: the text's length". */
    private static void theLastItemIsNotEnded() {
        String[] open = {"d", "N", "N<", "N=", "d;+", "d;/", "d;+h", "d;A", "d;N", "d;A<", "d;A=N", "d;A<N;/h"};
        for (String text : open) {
            fault(text, text.length());
            fault(text + " ", text.length() + 1);
            fault("  " + text + "   ", text.length() + 5);
            fault(text + blanks(80 - text.length()), 80);
        }
    }

    /** "A text without letters but blanks has no ITEMS and no FAULT": it is read, and tells all anew. */
    private static void blanksAlone() {
        for (int n : new int[] {0, 1, 2, 79, 80}) {
            TenseLines x = told("d;/d;A<B;");
            x.keep(0);
            x.says(4, 0, 2);
            x.sees(0, 0, 2);
            type(x, blanks(n));
            due("reads() of " + n + " blanks", x.reads(), 0);
            same("nothing is left", counts(x), "0 0 0 0 0 0 ");
            due("no IMAGE", x.back(0), STATE);
            due("no CLAUSE", x.clause(0, 0), BAD);
            due("reads() again", x.reads(), 0);
        }
    }

    /**
     * "A text without a FAULT read: STATEMENTS as told, nothing SEEN, nothing can be UNDONE, IMAGES are
     * gone, THE TEXT is empty."
     */
    private static void aTextReadTellsAllAnew() {
        for (Start start : Start.values()) {
            TenseLines x = start.make();
            due(start + ": reads()", read(x, "u;A<N;-p;"), 3);
            same(start + ": STATEMENTS as told", shape(x), "0:7,-9,0 -9:2,0,0 1:3,2,2 ");
            same(start + ": the rest is empty", counts(x), "2 1 3 0 0 0 ");
            due(start + ": undo()", x.undo(), STATE);
            due(start + ": back(0)", x.back(0), STATE);
            due(start + ": back(1)", x.back(1), STATE);
            due(start + ": UNSEEN with nothing SEEN", x.unseen(), 7);
            due(start + ": forget()", x.forget(), 0);
            due(start + ": clear()", x.clear(), 0);
        }
    }

    /** "STATEMENTS 0, 1, ..: CLAUSES and SAYINGS, in the order in which they were told." */
    private static void statementsAreInTheOrderTold() {
        same("told in turns", shape(told("h;A<N;=w;N=B;B<A;/g;C<A;")),
            "0:1,-9,0 -9:2,0,0 1:2,1,2 -9:0,1,4 -9:4,0,2 2:5,3,5 -9:6,0,2 ");
    }

    /** "-10 less FAULT": the least and the greatest place. */
    private static void theAnswerIsTenBelow() {
        due("FAULT 0", read(new TenseLines(), "x"), -10);
        due("FAULT 1", read(new TenseLines(), "dx"), -11);
        due("FAULT 79", read(new TenseLines(), blanks(79) + "x"), -89);
        due("FAULT 80", read(new TenseLines(), blanks(79) + "d"), -90);
    }

    public static void main(String[] args) {
        everyLetterComes();
        eightyLettersAtMost();
        theLetterRefusedIsNotRead();
        eightyLettersAreRead();
        clearTellsHowManyThereWere();
        eightClausesAtMost();
        sixSayingsAtMost();
        eachLimitIsItsOwn();
        theFirstClauseHasNoLink();
        eachOtherClauseHasALink();
        blanksArePassedOver();
        eachItemIsEnded();
        lettersAreOfClausesToldAhead();
        bothMayNotBeTheSame();
        theFirstOfSeveralFaults();
        whichLettersCanStand();
        theLastItemIsNotEnded();
        blanksAlone();
        aTextReadTellsAllAnew();
        statementsAreInTheOrderTold();
        theAnswerIsTenBelow();
        finish("the edges of a text hold");
    }
}
