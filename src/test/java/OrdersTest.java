import java.util.ArrayList;
import java.util.List;
import java.util.Random;

/**
 * ORDERS, what an answer leaves of them, WORST and BEST of seven and eight CLAUSES, where ModelTest is
 * too slow: every row of EVENTS is put together group by group, and stays if there are TIMES on a line
 * as all STATEMENTS tell with EVENTS in that row. The seeds are fixed.
 */
public final class OrdersTest extends Checks {
    private static final String TENSES = "dhwpvgfu";
    private static final String LINKS = "+=-/";

    /** What a text tells, and the rows of EVENTS that it leaves. */
    private static final class Rows {
        private final int clauses;
        private final StringBuilder text = new StringBuilder();
        /** {p, 1: ahead of or 0: at once with, q}; rows push what they add on top. */
        private final List<int[]> relations = new ArrayList<>();
        private final int[] place;
        private final int[][][] left;
        private int all;

        Rows(int clauses) {
            this.clauses = clauses;
            place = new int[clauses];
            left = new int[clauses][clauses][3];
        }

        void tellClause(int c, char link, char tense) {
            text.append(c == 0 ? "" : "" + link).append(tense).append(';');
            int look = 1 + 2 * c;
            int event = 2 + 2 * c;
            relate(event, "=<>=<>=<".charAt(TENSES.indexOf(tense)), look);
            relate(look, "<<<===>>".charAt(TENSES.indexOf(tense)), 0);
            if (c > 0) {
                relate(look - 2, "<=> ".charAt(LINKS.indexOf(link)), look);
            }
        }

        void tellSaying(int p, char sign, int q) {
            text.append(letter(p)).append(sign).append(letter(q)).append(';');
            relate(p, sign, q);
        }

        private static char letter(int p) {
            return p == 0 ? 'N' : (char) ('A' + p / 2 - 1);
        }

        private void relate(int p, char sign, int q) {
            if (sign == '>') {
                relations.add(new int[] {q, 1, p});
            } else if (sign != ' ') {
                relations.add(new int[] {p, sign == '<' ? 1 : 0, q});
            }
        }

        /** Whether numbers can be given: they grow until all is so, or beyond what any row needs. */
        private boolean canBe() {
            int[] number = new int[1 + 2 * clauses];
            boolean moved = true;
            while (moved) {
                moved = false;
                for (int[] r : relations) {
                    int least = number[r[0]] + r[1];
                    if (number[r[2]] < least) {
                        number[r[2]] = least;
                        moved = true;
                    } else if (r[1] == 0 && number[r[0]] < number[r[2]]) {
                        number[r[0]] = number[r[2]];
                        moved = true;
                    }
                    if (least > number.length) {
                        return false;
                    }
                }
            }
            return true;
        }

        void putBehind(int gone, int groups) {
            int told = relations.size();
            int rest = (1 << clauses) - 1 & ~gone;
            if (rest == 0) {
                note();
            }
            for (int group = rest; group > 0; group = group - 1 & rest) {
                putGroup(group, rest & ~group, groups);
                if (canBe()) {
                    putBehind(gone | group, groups + 1);
                }
                while (relations.size() > told) {
                    relations.remove(relations.size() - 1);
                }
            }
        }

        private void putGroup(int group, int rest, int groups) {
            int first = 2 + 2 * Integer.numberOfTrailingZeros(group);
            for (int c = 0; c < clauses; c++) {
                if ((group >> c & 1) == 1) {
                    place[c] = groups;
                    relations.add(new int[] {first, 0, 2 + 2 * c});
                } else if ((rest >> c & 1) == 1) {
                    relations.add(new int[] {first, 1, 2 + 2 * c});
                }
            }
        }

        private void note() {
            all++;
            for (int a = 0; a < clauses; a++) {
                for (int b = 0; b < clauses; b++) {
                    left[a][b][1 + Integer.compare(place[a], place[b])]++;
                }
            }
        }

        int worst(int a, int b) {
            return Math.max(left[a][b][0], Math.max(left[a][b][1], left[a][b][2]));
        }

        int[] best() {
            int[] best = {NONE, NONE, NONE};
            for (int a = 0; a < clauses; a++) {
                for (int b = a + 1; b < clauses; b++) {
                    // KNOWN of two EVENTS is other than 0 where one answer leaves all.
                    if (worst(a, b) < all && (best[2] == NONE || worst(a, b) < best[2])) {
                        best = new int[] {a, b, worst(a, b)};
                    }
                }
            }
            return best;
        }

        void compare() {
            if (canBe()) {
                putBehind(0, 0);
            }
            TenseLines x = told(text.toString());
            due("orders() of " + text, x.orders(), all);
            for (int a = 0; a < clauses; a++) {
                for (int b = 0; b < clauses; b++) {
                    for (int answer = 0; answer < 3; answer++) {
                        int want = a == b ? BAD : left[a][b][answer];
                        due("left(" + a + ", " + b + ", " + answer + ") of " + text, x.left(a, b, answer), want);
                    }
                }
            }
            int[] best = best();
            for (int what = 0; what < 3; what++) {
                due("best(" + what + ") of " + text, x.best(what), best[what]);
            }
        }
    }

    private static char one(Random random, String letters) {
        return letters.charAt(random.nextInt(letters.length()));
    }

    /** Mostly TENSES and LINKS that leave much open, since what is not SOUND has no ORDERS. */
    private static Rows rows(long seed, int clauses) {
        Random random = new Random(seed);
        String[] tenses = {"dw", "wu", "dhw", "dwuf", "wuvg", TENSES};
        String[] links = {"/", "//+", "/+-=", "+=", "//-"};
        String told = tenses[random.nextInt(tenses.length)];
        String linked = links[random.nextInt(links.length)];
        Rows rows = new Rows(clauses);
        for (int c = 0; c < clauses; c++) {
            rows.tellClause(c, one(random, linked), one(random, told));
        }
        for (int sayings = random.nextInt(7); sayings > 0; sayings--) {
            int a = random.nextInt(clauses);
            int b = random.nextInt(clauses);
            // Mostly of the lower one first, so that few make a ring.
            boolean turned = random.nextInt(10) == 0;
            if (a != b) {
                rows.tellSaying(2 + 2 * (turned ? Math.max(a, b) : Math.min(a, b)), one(random, "<<<<="),
                    random.nextInt(12) == 0 ? 0 : 2 + 2 * (turned ? Math.min(a, b) : Math.max(a, b)));
            }
        }
        return rows;
    }

    public static void main(String[] args) {
        int several = 0;
        for (int seed = 0; seed < 200; seed++) {
            Rows rows = rows(seed, seed % 4 == 0 ? 8 : 7);
            rows.compare();
            several += rows.all > 1 ? 1 : 0;
        }
        // Texts that are not SOUND would make this test say nothing.
        if (several < 80) {
            report("only " + several + " of 200 texts have several ORDERS");
        }
        finish("ORDERS of seven and eight CLAUSES hold");
    }
}
