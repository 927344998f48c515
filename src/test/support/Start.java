/** States that a test begins from, with what the document says that they have. */
enum Start {
    /** A new object. */
    EMPTY(0, 0, 0, 0, 0, 0),
    /** One CLAUSE and nothing else. */
    ONE(1, 0, 0, 0, 0, 0),
    /** Some of all there is; IMAGE 1 alone is kept, THE TEXT is not ended. */
    MIDDLE(3, 3, 1, 3, 2, 0b10),
    /** As much of all as there can be. */
    WHOLE(8, 6, 6, 80, 10, 0b11),
    /** STATEMENTS that are not SOUND; IMAGE 0 alone is kept, THE TEXT has a FAULT. */
    UNSOUND(2, 4, 1, 1, 2, 0b01);

    final int clauses;
    final int sayings;
    final int statements;
    final int seen;
    final int letters;
    final int undone;
    private final int images;

    Start(int clauses, int sayings, int seen, int letters, int undone, int images) {
        this.clauses = clauses;
        this.sayings = sayings;
        this.statements = clauses + sayings;
        this.seen = seen;
        this.letters = letters;
        this.undone = undone;
        this.images = images;
    }

    /** The highest TIME: the EVENT of the last CLAUSE, or NOW. */
    int lastTime() {
        return 2 * clauses;
    }

    boolean isKept(int image) {
        return (images >> image & 1) == 1;
    }

    TenseLines make() {
        switch (this) {
            case EMPTY:
                return new TenseLines();
            case ONE:
                return Checks.told("p;");
            case MIDDLE:
                return middle();
            case WHOLE:
                return whole();
            default:
                return unsound();
        }
    }

    private static TenseLines middle() {
        TenseLines x = Checks.told("d;A<N;/h;B<A;+w;");
        x.keep(1);
        x.says(4, 0, 6);
        x.tenses(0, 1);
        x.sees(2, 4, 3);
        Checks.type(x, "f;+");
        return x;
    }

    private static TenseLines whole() {
        TenseLines x = Checks.told("d;/d;/d;/d;/d;/d;/d;/d;A<B;B<C;C<D;A<E;");
        x.keep(0);
        // Twelve are done, so that the first two are lost.
        x.tenses(7, 1);
        x.tenses(6, 2);
        x.links(1, 0);
        x.tenses(7, 7);
        x.links(2, 0);
        x.tenses(5, 6);
        x.says(4, 0, 14);
        x.takes(8);
        x.says(2, 0, 8);
        x.says(10, 1, 6);
        x.links(5, 0);
        x.tenses(7, 6);
        x.keep(1);
        x.sees(2, 4, 1);
        x.sees(0, 0, 2);
        x.sees(2, 16, 1);
        x.sees(14, 0, 0);
        x.sees(1, 3, 1);
        x.sees(16, 16, 2);
        Checks.type(x, "h;+h;=w;-p;/v;+g;+f;+u;A<B;" + Checks.blanks(53));
        return x;
    }

    private static TenseLines unsound() {
        TenseLines x = Checks.told("d;N<A;/d;A<B;B<A;");
        x.says(2, 1, 4);
        x.links(1, 2);
        x.keep(0);
        x.sees(2, 4, 4);
        Checks.type(x, "x");
        return x;
    }
}
