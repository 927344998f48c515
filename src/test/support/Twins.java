/**
 * Whether a call changes anything: two objects are made alike, one gets the call, and all that later
 * calls could find out of them is compared, what can be UNDONE, SEEN, IMAGES and THE TEXT too.
 * Each probe has objects of its own, since it changes them and an object is good for 512 calls.
 */
final class Twins {
    interface Make {
        TenseLines make();
    }

    interface Call {
        int on(TenseLines x);
    }

    private static final int STATEMENTS = 0, ANSWERS = 1, SEEN = 2, TEXT = 3, IMAGES = 4, UNDONE = 6;
    private static final int PROBES = UNDONE + 11;

    private Twins() {
    }

    static void refused(String what, Make make, Call call, int want) {
        Checks.due(what, call.on(make.make()), want);
        changesNothing(what, make, call);
    }

    static void changesNothing(String what, Make make, Call call) {
        for (int probe = 0; probe < PROBES; probe++) {
            TenseLines x = make.make();
            call.on(x);
            Checks.same(what + " changes something, probe " + probe, found(x, probe), found(make.make(), probe));
        }
    }

    private static String found(TenseLines x, int probe) {
        switch (probe) {
            case STATEMENTS:
                return Checks.counts(x) + Checks.shape(x);
            case ANSWERS:
                return answers(x);
            case SEEN:
                return seen(x);
            case TEXT:
                return x.reads() + " " + Checks.counts(x) + Checks.shape(x) + x.clear();
            case IMAGES:
            case IMAGES + 1:
                return x.back(probe - IMAGES) + " " + Checks.counts(x) + Checks.shape(x);
            default:
                return undone(x, probe - UNDONE + 1);
        }
    }

    private static String answers(TenseLines x) {
        StringBuilder all = new StringBuilder();
        all.append(x.sound()).append(' ').append(x.clash(0)).append(' ').append(x.orders());
        all.append(' ').append(x.best(0)).append(' ').append(x.best(1)).append(' ').append(x.best(2));
        int times = 1 + 2 * x.count(0);
        for (int p = 0; p < times; p++) {
            all.append(' ').append(x.line(p)).append(',').append(x.known(0, p)).append(',').append(x.known(p, times / 2));
        }
        return all.toString();
    }

    /** UNSEEN by other STATEMENTS tells more of what was SEEN than UNSEEN alone. */
    private static String seen(TenseLines x) {
        StringBuilder all = new StringBuilder();
        all.append(x.unseen());
        for (int c = 0; c < x.count(0); c++) {
            for (int tense = 0; tense < 8; tense += 3) {
                x.tenses(c, tense);
                all.append(' ').append(x.unseen());
            }
        }
        return all.append(' ').append(x.forget()).toString();
    }

    private static String undone(TenseLines x, int times) {
        StringBuilder all = new StringBuilder();
        for (int i = 0; i < times; i++) {
            all.append(x.undo()).append(' ');
        }
        return all.append(Checks.shape(x)).toString();
    }
}
