import java.util.NoSuchElementException;

/** A test for each promise of the document, in its order: ordinary inputs, named edges and wrong inputs. */
public final class PromiseTest {
    private static final Class<IllegalArgumentException> ARGUMENT = IllegalArgumentException.class;
    private static final Class<IllegalStateException> STATE = IllegalStateException.class;
    private static final Class<NoSuchElementException> ELEMENT = NoSuchElementException.class;
    private static final Class<UnsupportedOperationException> UNSUPPORTED = UnsupportedOperationException.class;
    private static final int[] WRONG_IDS = {-1, 99, Integer.MAX_VALUE, Integer.MIN_VALUE};

    private static final Checks CHECKS = new Checks();

    private PromiseTest() {
    }

    public static void main(String[] args) {
        changes();
        foundColours();
        reports();
        distances();
        settlementsAndPalettes();
        totalsAndChecks();
        outputAndScripts();
        CHECKS.end("PromiseTest");
    }

    private static void same(String what, Object got, Object want) {
        CHECKS.same(what, got, want);
    }

    private static void refused(String what, Class<? extends RuntimeException> kind, Runnable call) {
        CHECKS.refused(what, kind, call);
    }

    private static int[] c(int red, int green, int blue, int fastness) {
        return Offices.c(red, green, blue, fastness);
    }

    private static String text(ColourOffice office, int length) {
        StringBuilder text = new StringBuilder();
        for (int index = 0; index < length; index++) {
            text.append(office.outputAt(index));
        }
        refused("outputAt behind the text", IndexOutOfBoundsException.class, () -> office.outputAt(length));
        return text.toString();
    }

    /** All that the face tells of the state, so that two states can be compared. */
    private static String dump(ColourOffice office) {
        StringBuilder all = new StringBuilder();
        all.append(office.day()).append(office.metric()).append(' ').append(office.coins()).append(' ')
                .append(office.coinsByAccounts()).append(' ').append(office.returnedTotal());
        for (int position = 0; position < office.colourCount(); position++) {
            int id = office.colourAt(position);
            all.append(" c").append(id).append(':').append(office.red(id)).append('/').append(office.green(id))
                    .append('/').append(office.blue(id)).append('f').append(office.fastness(id)).append('d')
                    .append(office.age(id));
        }
        for (int position = 0; position < office.reportCount(); position++) {
            int id = office.reportAt(position);
            all.append(" r").append(id).append(':').append(office.toleranceOf(id)).append('+')
                    .append(office.rewardOf(id));
        }
        return all.toString();
    }

    // ---- promises 1 to 10 ----

    private static void changes() {
        newObject();
        addColour();
        report();
        withdraw();
        discard();
        setMetric();
        giveBack();
        settle();
        mix();
        passDays();
    }

    private static void newObject() {
        same("1: a new office", dump(new ColourOffice()), "0m 0 0 0");
    }

    private static void addColour() {
        ColourOffice office = new ColourOffice();
        same("2: first id", office.addColour(0, 99, 50, 1), 0);
        same("2: second id", office.addColour(99, 0, 0, 9), 1);
        same("2: what is added", dump(office), "0m 0 0 0 c0:0/99/50f1d0 c1:99/0/0f9d0");
        int[][] wrong = {{-1, 0, 0, 1}, {100, 0, 0, 1}, {0, -1, 0, 1}, {0, 100, 0, 1}, {0, 0, -1, 1}, {0, 0, 100, 1},
            {0, 0, 0, 0}, {0, 0, 0, 10}, {Integer.MIN_VALUE, 0, 0, 1}, {0, 0, 0, Integer.MAX_VALUE}};
        for (int[] w : wrong) {
            refused("2: wrong argument", ARGUMENT, () -> office.addColour(w[0], w[1], w[2], w[3]));
        }
        office.discard(1);
        same("2: no id is given twice", office.addColour(1, 1, 1, 1), 2);
        for (int more = 0; more < 8; more++) {
            office.addColour(1, 1, 1, 1);
        }
        String full = dump(office);
        refused("2: an eleventh colour", STATE, () -> office.addColour(1, 1, 1, 1));
        refused("2: a wrong eleventh colour", ARGUMENT, () -> office.addColour(1, 1, 100, 1));
        same("2: nothing is changed by a refusal", dump(office), full);
        office.discard(5);
        same("2: the refusal took no id", office.addColour(1, 1, 1, 1), 11);
    }

    private static void report() {
        ColourOffice office = new ColourOffice();
        same("3: first id", office.report(0, 99, 50, 0, 1), 0);
        same("3: second id", office.report(99, 0, 0, 9999, 99), 1);
        same("3: what is opened", dump(office), "0m 0 0 0 r0:0+1 r1:9999+99");
        int[][] wrong = {{-1, 0, 0, 0, 1}, {100, 0, 0, 0, 1}, {0, -1, 0, 0, 1}, {0, 100, 0, 0, 1}, {0, 0, -1, 0, 1},
            {0, 0, 100, 0, 1}, {0, 0, 0, -1, 1}, {0, 0, 0, 10000, 1}, {0, 0, 0, 0, 0}, {0, 0, 0, 0, 100}};
        for (int[] w : wrong) {
            refused("3: wrong argument", ARGUMENT, () -> office.report(w[0], w[1], w[2], w[3], w[4]));
        }
        for (int more = 0; more < 4; more++) {
            same("3: next id", office.report(1, 1, 1, 1, 1), 2 + more);
        }
        refused("3: a seventh report", STATE, () -> office.report(1, 1, 1, 1, 1));
        refused("3: a wrong seventh report", ARGUMENT, () -> office.report(1, 1, 1, 1, 0));
        office.withdraw(0);
        same("3: ids of reports are counted on their own", office.addColour(1, 1, 1, 1), 0);
        same("3: the refusal took no id", office.report(1, 1, 1, 1, 1), 6);
    }

    private static void withdraw() {
        ColourOffice office = new ColourOffice();
        refused("4: no report", ELEMENT, () -> office.withdraw(0));
        office.report(1, 1, 1, 1, 1);
        office.report(2, 2, 2, 2, 2);
        office.report(3, 3, 3, 3, 3);
        same("4: reports left", office.withdraw(1), 2);
        same("4: the others stay", dump(office), "0m 0 0 0 r0:1+1 r2:3+3");
        refused("4: withdrawn already", ELEMENT, () -> office.withdraw(1));
        for (int id : WRONG_IDS) {
            refused("4: wrong id", ELEMENT, () -> office.withdraw(id));
        }
        same("4: reports left", office.withdraw(2), 1);
        same("4: reports left", office.withdraw(0), 0);
    }

    private static void discard() {
        ColourOffice office = Offices.officeOf(c(1, 1, 1, 1), c(2, 2, 2, 2), c(3, 3, 3, 3));
        same("5: colours left", office.discard(0), 2);
        same("5: a coin is paid", dump(office), "0m -1 -1 0 c1:2/2/2f2d0 c2:3/3/3f3d0");
        refused("5: discarded already", ELEMENT, () -> office.discard(0));
        for (int id : WRONG_IDS) {
            refused("5: wrong id", ELEMENT, () -> office.discard(id));
        }
        same("5: a refusal costs nothing", office.coins(), -1);
        same("5: colours left", office.discard(2), 1);
        same("5: two coins are paid", office.coins(), -2);
    }

    private static void setMetric() {
        ColourOffice office = new ColourOffice();
        same("6: the first one", office.setMetric('s'), 'm');
        same("6: the next one", office.setMetric('g'), 's');
        same("6: the same one", office.setMetric('g'), 'g');
        same("6: and back", office.setMetric('m'), 'g');
        for (char wrong : new char[] {'x', 'M', ' ', 0, '\uffff', 'a'}) {
            refused("6: no such metric", ARGUMENT, () -> office.setMetric(wrong));
        }
        same("6: a refusal changes nothing", office.metric(), 'm');
    }

    private static void giveBack() {
        ColourOffice office = Offices.officeOf(c(10, 0, 0, 1), c(12, 0, 0, 1), c(14, 0, 0, 1));
        office.report(11, 0, 0, 1, 5);
        office.report(14, 0, 0, 0, 7);
        office.report(20, 0, 0, 5, 9);
        refused("7: no such report", ELEMENT, () -> office.giveBack(3, 0));
        refused("7: no such colour", ELEMENT, () -> office.giveBack(0, 3));
        refused("7: as near, but of a higher id", UNSUPPORTED, () -> office.giveBack(0, 1));
        refused("7: the nearest one does not fit", UNSUPPORTED, () -> office.giveBack(2, 2));
        refused("7: not the nearest one", UNSUPPORTED, () -> office.giveBack(2, 0));
        same("7: nothing is changed by a refusal", office.coins() + office.returnedTotal(), 0);
        same("7: a distance of the tolerance", office.giveBack(0, 0), 5);
        same("7: a distance of 0", office.giveBack(1, 2), 7);
        same("7: both are gone", dump(office), "0m 12 12 2 c1:12/0/0f1d0 r2:5+9");
        refused("7: the report is gone", ELEMENT, () -> office.giveBack(0, 1));
        refused("7: the colour is gone", ELEMENT, () -> office.giveBack(2, 0));
        same("7: the rest is still answered", office.nearestFor(2), 1);
        ColourOffice byMetric = Offices.officeOf(c(0, 5, 5, 1), c(8, 0, 0, 1));
        byMetric.report(0, 0, 0, 9999, 3);
        refused("7: the nearest in the present metric", UNSUPPORTED, () -> byMetric.giveBack(0, 0));
        byMetric.setMetric('s');
        same("7: the nearest in another metric", byMetric.giveBack(0, 0), 3);
    }

    private static void settle() {
        ColourOffice office = new ColourOffice();
        same("8: nothing to settle", office.settle(), 0);
        same("8: it is a change all the same", office.undo(), 0);
        ColourOffice full = Offices.officeOf(c(0, 0, 0, 1), c(5, 0, 0, 1), c(90, 0, 0, 1), c(6, 0, 0, 1));
        full.report(5, 0, 0, 0, 1);
        full.report(50, 0, 0, 3, 99);
        full.report(4, 0, 0, 4, 10);
        full.report(91, 0, 0, 1, 20);
        same("8: returned", full.settle(), 3);
        same("8: what is left", dump(full), "0m 31 31 3 c0:0/0/0f1d0 r1:3+99");
        same("8: ids go on", full.addColour(1, 1, 1, 1), 4);
        same("8: ids of reports go on", full.report(1, 1, 1, 1, 1), 4);
    }

    private static void mix() {
        ColourOffice office = Offices.officeOf(c(0, 99, 3, 5), c(7, 98, 4, 2), c(50, 50, 50, 9));
        office.passDays(1);
        refused("9: no such first colour", ELEMENT, () -> office.mix(3, 0));
        refused("9: no such second colour", ELEMENT, () -> office.mix(0, -1));
        refused("9: the same and missing", ELEMENT, () -> office.mix(3, 3));
        refused("9: the same", ARGUMENT, () -> office.mix(1, 1));
        ColourOffice fresh = Offices.officeOf(c(0, 99, 3, 5), c(7, 98, 4, 2), c(50, 50, 50, 9));
        same("9: the new id", fresh.mix(1, 0), 3);
        same("9: halves are rounded down", dump(fresh), "0m 0 0 0 c2:50/50/50f9d0 c3:3/98/3f2d0");
        same("9: the new id", office.mix(0, 2), 3);
        same("9: the age starts again", office.age(3), 0);
        same("9: the smaller fastness", office.fastness(3), 5);
        refused("9: the first one is gone", ELEMENT, () -> office.red(0));
        refused("9: the second one is gone", ELEMENT, () -> office.red(2));
        ColourOffice ten = new ColourOffice();
        for (int more = 0; more < 10; more++) {
            ten.addColour(more, more, more, 1);
        }
        same("9: in a full office", ten.mix(9, 0), 10);
        same("9: one less", ten.colourCount(), 9);
        same("9: the new one is the last", ten.colourAt(8), 10);
    }

    private static void passDays() {
        ColourOffice office = Offices.officeOf(c(51, 50, 49, 2), c(0, 99, 50, 1), c(50, 50, 50, 9));
        same("10: a day of no fading for the first", office.passDays(1), 1);
        same("10: fading towards grey", dump(office), "1m 0 0 0 c0:51/50/49f2d1 c1:1/98/50f1d1 c2:50/50/50f9d1");
        office.addColour(52, 48, 50, 2);
        same("10: by age, not by day", office.passDays(1), 2);
        same("10: by age, not by day", dump(office),
                "2m 0 0 0 c0:50/50/50f2d2 c1:2/97/50f1d2 c2:50/50/50f9d2 c3:52/48/50f2d1");
        for (int wrong : new int[] {0, -1, 100, Integer.MAX_VALUE, Integer.MIN_VALUE}) {
            refused("10: wrong number of days", ARGUMENT, () -> office.passDays(wrong));
        }
        same("10: nothing is changed by a refusal", office.day(), 2);
        same("10: the most days", office.passDays(99), 4);
        same("10: the day counter", office.day(), 101);
        same("10: no colours", new ColourOffice().passDays(1), 0);
    }

    // ---- promises 11 to 19 ----

    private static void foundColours() {
        ColourOffice office = Offices.officeOf(c(1, 2, 3, 4), c(50, 50, 50, 1), c(3, 2, 1, 9), c(0, 6, 0, 2));
        same("11: colours", office.colourCount(), 4);
        office.discard(1);
        same("11: colours after a discard", office.colourCount(), 3);
        same("11: no colours", new ColourOffice().colourCount(), 0);
        same("12: at 0", office.colourAt(0), 0);
        same("12: at 1", office.colourAt(1), 2);
        same("12: at 2", office.colourAt(2), 3);
        for (int wrong : new int[] {-1, 3, 10, Integer.MAX_VALUE, Integer.MIN_VALUE}) {
            refused("12: no such position", ELEMENT, () -> office.colourAt(wrong));
            refused("19: no such rank", ELEMENT, () -> office.colourByBrightness(wrong));
        }
        same("13: red", office.red(2), 3);
        same("14: green", office.green(2), 2);
        same("15: blue", office.blue(2), 1);
        same("16: fastness", office.fastness(2), 9);
        same("17: age", office.age(2), 0);
        same("18: days", office.daysUntilGrey(2), 49 * 9);
        for (int id : new int[] {1, -1, 4, Integer.MAX_VALUE, Integer.MIN_VALUE}) {
            refused("13: no such colour", ELEMENT, () -> office.red(id));
            refused("14: no such colour", ELEMENT, () -> office.green(id));
            refused("15: no such colour", ELEMENT, () -> office.blue(id));
            refused("16: no such colour", ELEMENT, () -> office.fastness(id));
            refused("17: no such colour", ELEMENT, () -> office.age(id));
            refused("18: no such colour", ELEMENT, () -> office.daysUntilGrey(id));
        }
        office.passDays(5);
        office.addColour(9, 9, 9, 1);
        same("17: age", office.age(2), 5);
        same("17: age of a later colour", office.age(4), 0);
        same("18: the days since the last fading count", office.daysUntilGrey(2), 49 * 9 - 5);
        same("18: a colour that has faded", office.daysUntilGrey(0), 48 * 4 - 1);
        daysUntilGrey();
        colourByBrightness();
    }

    private static void daysUntilGrey() {
        ColourOffice office = Offices.officeOf(c(50, 50, 50, 9), c(50, 53, 50, 3), c(49, 51, 50, 1), c(0, 99, 50, 7));
        same("18: grey", office.daysUntilGrey(0), 0);
        same("18: the greatest difference counts", office.daysUntilGrey(3), 350);
        for (int days = office.daysUntilGrey(1); days > 0; days--) {
            same("18: one day less", office.daysUntilGrey(1), days);
            office.passDays(1);
        }
        same("18: grey at last", office.daysUntilGrey(1), 0);
        same("18: and told so", office.greyShare(), 0.75f);
        same("18: nine days later", office.daysUntilGrey(3), 341);
    }

    private static void colourByBrightness() {
        ColourOffice office = Offices.officeOf(c(1, 1, 1, 1), c(9, 0, 0, 1), c(0, 0, 9, 1), c(99, 99, 99, 1),
                c(1, 2, 0, 1));
        int[] due = {3, 1, 2, 0, 4};
        for (int rank = 0; rank < due.length; rank++) {
            same("19: rank " + rank, office.colourByBrightness(rank), due[rank]);
        }
        refused("19: no colours", ELEMENT, () -> new ColourOffice().colourByBrightness(0));
    }

    // ---- promises 20 to 26 ----

    private static void reports() {
        ColourOffice office = new ColourOffice();
        same("20: no reports", office.reportCount(), 0);
        office.report(10, 10, 10, 6, 3);
        office.report(1, 1, 1, 1, 1);
        office.report(20, 30, 40, 9999, 99);
        office.withdraw(1);
        same("20: reports", office.reportCount(), 2);
        same("21: at 0", office.reportAt(0), 0);
        same("21: at 1", office.reportAt(1), 2);
        for (int wrong : new int[] {-1, 2, 6, Integer.MAX_VALUE, Integer.MIN_VALUE}) {
            refused("21: no such position", ELEMENT, () -> office.reportAt(wrong));
        }
        same("22: tolerance", office.toleranceOf(0), 6);
        same("22: tolerance", office.toleranceOf(2), 9999);
        same("23: reward", office.rewardOf(0), 3);
        same("23: reward", office.rewardOf(2), 99);
        refused("26: no found colours", ELEMENT, () -> office.nearestFor(0));
        office.addColour(10, 13, 14, 1);
        office.addColour(10, 12, 14, 1);
        for (int id : new int[] {1, -1, 3, Integer.MAX_VALUE, Integer.MIN_VALUE}) {
            refused("22: no such report", ELEMENT, () -> office.toleranceOf(id));
            refused("23: no such report", ELEMENT, () -> office.rewardOf(id));
            refused("24: no such report", ELEMENT, () -> office.distanceFor(id, 0));
            refused("25: no such report", ELEMENT, () -> office.fits(id, 0));
            refused("26: no such report", ELEMENT, () -> office.nearestFor(id));
        }
        for (int id : WRONG_IDS) {
            refused("24: no such colour", ELEMENT, () -> office.distanceFor(0, id));
            refused("25: no such colour", ELEMENT, () -> office.fits(0, id));
        }
        same("24: in metric m", office.distanceFor(0, 0), 7);
        same("25: 7 of 6", office.fits(0, 0), false);
        same("25: 6 of 6", office.fits(0, 1), true);
        same("26: the nearest", office.nearestFor(0), 1);
        office.setMetric('s');
        same("24: in metric s", office.distanceFor(0, 0), 25);
        same("25: in metric s", office.fits(0, 1), false);
        same("26: in metric s", office.nearestFor(0), 1);
        office.setMetric('g');
        same("24: in metric g", office.distanceFor(0, 0), 4);
        same("25: in metric g", office.fits(0, 0), true);
        same("26: the lowest id of several", office.nearestFor(0), 0);
        same("26: of another report", office.nearestFor(2), 0);
    }

    // ---- promises 27 to 31 ----

    private static void distances() {
        ColourOffice office = Offices.officeOf(c(10, 20, 30, 1), c(13, 16, 42, 1), c(0, 99, 0, 1), c(99, 0, 99, 1));
        same("27: in metric m", office.distance(0, 1), 19);
        same("27: the other way round", office.distance(1, 0), 19);
        same("27: of the same", office.distance(1, 1), 0);
        office.setMetric('s');
        same("27: in metric s", office.distance(0, 1), 169);
        same("27: the greatest", office.distance(2, 3), 29403);
        office.setMetric('g');
        same("27: in metric g", office.distance(0, 1), 12);
        for (int id : WRONG_IDS) {
            refused("27: no such first colour", ELEMENT, () -> office.distance(id, 0));
            refused("27: no such second colour", ELEMENT, () -> office.distance(0, id));
            refused("27: the same and missing", ELEMENT, () -> office.distance(id, id));
        }
        nearest();
        closestDistance();
    }

    private static void nearest() {
        ColourOffice office = new ColourOffice();
        int[][] wrong = {{-1, 0, 0}, {100, 0, 0}, {0, -1, 0}, {0, 100, 0}, {0, 0, -1}, {0, 0, 100}};
        for (int[] w : wrong) {
            refused("28: wrong part", ARGUMENT, () -> office.nearest(w[0], w[1], w[2]));
            refused("29: wrong part", ARGUMENT, () -> office.nearestByLooking(w[0], w[1], w[2]));
        }
        refused("28: no found colours", ELEMENT, () -> office.nearest(0, 0, 0));
        refused("29: no found colours", ELEMENT, () -> office.nearestByLooking(0, 0, 0));
        int[][] colours = {{50, 50, 50}, {20, 80, 40}, {80, 20, 40}, {20, 80, 40}, {50, 50, 51}, {0, 0, 0},
            {99, 99, 99}, {50, 40, 50}, {60, 50, 50}, {40, 50, 50}};
        for (int[] colour : colours) {
            office.addColour(colour[0], colour[1], colour[2], 1);
        }
        for (char metric : new char[] {'m', 's', 'g'}) {
            office.setMetric(metric);
            for (int[] w : wrong) {
                refused("28: wrong part", ARGUMENT, () -> office.nearest(w[0], w[1], w[2]));
                refused("29: wrong part", ARGUMENT, () -> office.nearestByLooking(w[0], w[1], w[2]));
            }
            for (int place = 0; place < 1000; place++) {
                int red = place % 10 * 11;
                int green = place / 10 % 10 * 11;
                int blue = place / 100 * 11;
                int due = nearestOf(colours, metric, red, green, blue);
                same("28: nearest in " + metric, office.nearest(red, green, blue), due);
                same("29: nearest in " + metric, office.nearestByLooking(red, green, blue), due);
            }
        }
        same("28: the lowest id of several", office.nearest(20, 80, 40), 1);
        same("29: the lowest id of several", office.nearestByLooking(20, 80, 40), 1);
    }

    private static int nearestOf(int[][] colours, char metric, int red, int green, int blue) {
        int best = 0;
        for (int id = 1; id < colours.length; id++) {
            if (gap(colours[id], metric, red, green, blue) < gap(colours[best], metric, red, green, blue)) {
                best = id;
            }
        }
        return best;
    }

    private static int gap(int[] colour, char metric, int red, int green, int blue) {
        int r = Math.abs(colour[0] - red);
        int g = Math.abs(colour[1] - green);
        int b = Math.abs(colour[2] - blue);
        return metric == 'm' ? r + g + b : metric == 's' ? r * r + g * g + b * b : Math.max(r, Math.max(g, b));
    }

    private static void closestDistance() {
        ColourOffice office = new ColourOffice();
        refused("30: no colours", ELEMENT, () -> office.closestDistance());
        refused("31: no colours", ELEMENT, () -> office.closestDistanceBySorting());
        office.addColour(0, 0, 0, 1);
        refused("30: one colour", ELEMENT, () -> office.closestDistance());
        refused("31: one colour", ELEMENT, () -> office.closestDistanceBySorting());
        office.addColour(0, 40, 0, 1);
        same("30: two colours", office.closestDistance(), 40);
        same("31: two colours", office.closestDistanceBySorting(), 40);
        office.addColour(30, 0, 0, 1);
        office.addColour(50, 6, 6, 1);
        office.addColour(60, 0, 0, 1);
        same("30: in metric m", office.closestDistance(), 22);
        same("31: in metric m", office.closestDistanceBySorting(), 22);
        office.setMetric('s');
        same("30: in metric s", office.closestDistance(), 172);
        same("31: in metric s", office.closestDistanceBySorting(), 172);
        office.setMetric('g');
        same("30: in metric g", office.closestDistance(), 10);
        same("31: in metric g", office.closestDistanceBySorting(), 10);
        office.addColour(60, 0, 0, 9);
        same("30: the same colour twice", office.closestDistance(), 0);
        same("31: the same colour twice", office.closestDistanceBySorting(), 0);
    }

    // ---- promises 32 to 38 ----

    private static void settlementsAndPalettes() {
        settlementsOfNothing();
        settlementByReward();
        settlementByDistance();
        settlementByIds();
        settlementOfMany();
        palettesOfFew();
        palettesOfEqualError();
    }

    private static void settlementsOfNothing() {
        ColourOffice office = new ColourOffice();
        same("32: nothing", office.bestReward(), 0);
        same("33: nothing", office.bestRewardByTrying(), 0);
        same("34: nothing", office.bestDifference(), 0);
        refused("35: no such report", ELEMENT, () -> office.settlementFor(0));
        office.report(0, 0, 0, 0, 50);
        refused("35: no colours", ELEMENT, () -> office.settlementFor(0));
        office.addColour(0, 0, 1, 1);
        same("32: no colour fits", office.bestReward(), 0);
        same("33: no colour fits", office.bestRewardByTrying(), 0);
        same("34: no colour fits", office.bestDifference(), 0);
        refused("35: no colour fits", ELEMENT, () -> office.settlementFor(0));
        office.addColour(0, 0, 0, 1);
        same("32: one fits", office.bestReward(), 50);
        same("33: one fits", office.bestRewardByTrying(), 50);
        same("34: one fits", office.bestDifference(), 0);
        same("35: one fits", office.settlementFor(0), 1);
        for (int id : WRONG_IDS) {
            refused("35: no such report", ELEMENT, () -> office.settlementFor(id));
        }
    }

    private static void settlementByReward() {
        ColourOffice office = Offices.officeOf(c(0, 0, 0, 1), c(10, 0, 0, 1));
        office.report(0, 0, 0, 99, 10);
        office.report(10, 0, 0, 99, 11);
        office.report(0, 10, 0, 10, 12);
        same("32: the greatest rewards", office.bestReward(), 23);
        same("33: the greatest rewards", office.bestRewardByTrying(), 23);
        same("34: the distances of the best", office.bestDifference(), 10);
        refused("35: it gets none", ELEMENT, () -> office.settlementFor(0));
        same("35: its own", office.settlementFor(1), 1);
        same("35: the only one that fits", office.settlementFor(2), 0);
        ColourOffice coin = Offices.officeOf(c(0, 0, 0, 1));
        coin.setMetric('s');
        coin.report(0, 0, 0, 0, 98);
        coin.report(99, 0, 0, 9999, 99);
        same("32: a coin outweighs all distances", coin.bestReward(), 99);
        same("34: a coin outweighs all distances", coin.bestDifference(), 9801);
        same("35: a coin outweighs all distances", coin.settlementFor(1), 0);
    }

    private static void settlementByDistance() {
        ColourOffice office = Offices.officeOf(c(5, 0, 0, 1), c(0, 0, 0, 1), c(50, 0, 0, 1));
        office.report(0, 0, 0, 99, 10);
        office.report(4, 0, 0, 99, 10);
        same("34: the smallest distances", office.bestDifference(), 1);
        same("35: the smallest distances", office.settlementFor(0), 1);
        same("35: the smallest distances", office.settlementFor(1), 0);
        office.report(60, 0, 0, 5, 99);
        same("32: one report stays out", office.bestReward(), 20);
        office.setMetric('g');
        office.report(60, 0, 0, 10, 1);
        same("32: all but one", office.bestReward(), 21);
        same("34: all but one", office.bestDifference(), 11);
        same("35: the last", office.settlementFor(3), 2);
    }

    private static void settlementByIds() {
        ColourOffice office = Offices.officeOf(c(10, 0, 0, 1), c(0, 10, 0, 1), c(0, 0, 10, 1));
        office.report(0, 0, 0, 10, 7);
        office.report(0, 0, 0, 10, 7);
        same("35: the lowest id for the first", office.settlementFor(0), 0);
        same("35: the next one for the second", office.settlementFor(1), 1);
        office.report(10, 0, 0, 0, 7);
        same("35: the lowest id with which it is still best", office.settlementFor(0), 1);
        same("35: the next one", office.settlementFor(1), 2);
        same("35: the only one that fits", office.settlementFor(2), 0);
        ColourOffice few = Offices.officeOf(c(5, 5, 5, 1));
        few.report(5, 5, 6, 9, 3);
        few.report(5, 5, 4, 9, 3);
        same("35: the first report rather gets one than none", few.settlementFor(0), 0);
        refused("35: so the second gets none", ELEMENT, () -> few.settlementFor(1));
    }

    private static void settlementOfMany() {
        ColourOffice office = new ColourOffice();
        office.setMetric('s');
        for (int number = 0; number < 10; number++) {
            office.addColour(number * 11, 99, 0, 1);
        }
        for (int number = 0; number < 6; number++) {
            office.report(99, 99, 0, 9999, 99);
        }
        same("32: all six", office.bestReward(), 594);
        same("33: all six", office.bestRewardByTrying(), 594);
        same("34: all six", office.bestDifference(), 121 * (0 + 1 + 4 + 9 + 16 + 25));
        for (int number = 0; number < 6; number++) {
            same("35: in the order of ids", office.settlementFor(number), 4 + number);
        }
        ColourOffice few = Offices.officeOf(c(0, 0, 0, 1), c(1, 1, 1, 1));
        int[] rewards = {4, 9, 2, 9, 1, 8};
        for (int reward : rewards) {
            few.report(0, 0, 0, 99, reward);
        }
        same("32: the two best of six", few.bestReward(), 18);
        same("33: the two best of six", few.bestRewardByTrying(), 18);
        same("34: the two best of six", few.bestDifference(), 3);
        same("35: the two best of six", few.settlementFor(1) * 10 + few.settlementFor(3), 1);
    }

    private static void palettesOfFew() {
        ColourOffice none = new ColourOffice();
        ColourOffice office = Offices.officeOf(c(0, 0, 0, 1), c(10, 0, 0, 1), c(20, 0, 0, 1), c(80, 80, 80, 2),
                c(90, 80, 80, 2));
        for (int wrong : new int[] {0, -1, 6, Integer.MAX_VALUE, Integer.MIN_VALUE}) {
            refused("36: wrong size", ARGUMENT, () -> office.paletteError(wrong));
            refused("37: wrong size", ARGUMENT, () -> office.paletteErrorBySearch(wrong));
            refused("38: wrong size", ARGUMENT, () -> office.paletteColour(wrong, 0));
            refused("38: wrong size and position", ARGUMENT, () -> office.paletteColour(wrong, -1));
        }
        refused("36: no colours", ARGUMENT, () -> none.paletteError(1));
        refused("37: no colours", ARGUMENT, () -> none.paletteErrorBySearch(1));
        refused("38: no colours", ARGUMENT, () -> none.paletteColour(1, 0));
        int[] errors = {480, 30, 20, 10, 0};
        int[][] palettes = {{2}, {1, 3}, {0, 1, 3}, {0, 1, 2, 3}, {0, 1, 2, 3, 4}};
        for (int size = 1; size <= 5; size++) {
            int palette = size;
            same("36: size " + size, office.paletteError(size), errors[size - 1]);
            same("37: size " + size, office.paletteErrorBySearch(size), errors[size - 1]);
            for (int position = 0; position < size; position++) {
                same("38: size " + size, office.paletteColour(size, position), palettes[size - 1][position]);
            }
            refused("38: no such position", ELEMENT, () -> office.paletteColour(palette, palette));
            refused("38: no such position", ELEMENT, () -> office.paletteColour(palette, -1));
            refused("38: no such position", ELEMENT, () -> office.paletteColour(palette, Integer.MAX_VALUE));
        }
        office.setMetric('s');
        same("36: in metric s", office.paletteError(2), 300);
        same("37: in metric s", office.paletteErrorBySearch(2), 300);
        office.setMetric('g');
        same("36: in metric g", office.paletteError(1), 10 + 10 + 80 + 80);
        same("38: in metric g", office.paletteColour(1, 0), 1);
    }

    private static void palettesOfEqualError() {
        ColourOffice office = Offices.officeOf(c(1, 1, 1, 1), c(7, 7, 7, 1), c(7, 7, 7, 1), c(1, 1, 1, 1),
                c(7, 7, 7, 1));
        office.discard(0);
        same("36: two colours twice", office.paletteError(2), 0);
        same("37: two colours twice", office.paletteErrorBySearch(2), 0);
        same("38: the lowest id that only one contains", office.paletteColour(2, 0), 1);
        same("38: the lowest id that only one contains", office.paletteColour(2, 1), 3);
        same("38: of three", office.paletteColour(3, 0) * 100 + office.paletteColour(3, 1) * 10
                + office.paletteColour(3, 2), 123);
        same("38: of one", office.paletteColour(1, 0), 1);
    }

    // ---- promises 39 to 46 ----

    private static void totalsAndChecks() {
        ColourOffice office = new ColourOffice();
        same("39: day", office.day(), 0);
        same("40: metric", office.metric(), 'm');
        same("41: coins", office.coins(), 0);
        same("42: coins by accounts", office.coinsByAccounts(), 0);
        same("43: returned", office.returnedTotal(), 0);
        refused("44: no colours", ArithmeticException.class, () -> office.meanBrightness());
        refused("45: no colours", ArithmeticException.class, () -> office.greyShare());
        same("46: nothing", office.isConsistent(), true);
        office.addColour(0, 0, 1, 1);
        same("44: one colour", office.meanBrightness(), 1.0 / 3.0);
        same("45: no grey", office.greyShare(), 0.0f);
        same("46: one colour", office.isConsistent(), true);
        office.addColour(50, 50, 50, 1);
        office.addColour(50, 50, 51, 1);
        same("44: three colours", office.meanBrightness(), 302.0 / 9.0);
        same("45: one of three", office.greyShare(), 1.0f / 3.0f);
        office.report(0, 0, 0, 1, 30);
        office.report(50, 50, 49, 9, 40);
        same("46: with reports", office.isConsistent(), true);
        office.giveBack(0, 0);
        same("41: a reward", office.coins(), 30);
        same("42: a reward", office.coinsByAccounts(), 30);
        office.discard(2);
        same("41: a discard", office.coins(), 29);
        same("42: a discard", office.coinsByAccounts(), 29);
        office.settle();
        same("41: a settlement", office.coins(), 69);
        same("42: a settlement", office.coinsByAccounts(), 69);
        same("43: a settlement", office.returnedTotal(), 2);
        office.passDays(7);
        office.passDays(99);
        office.setMetric('g');
        same("39: days later", office.day(), 106);
        same("40: another metric", office.metric(), 'g');
        same("46: later", office.isConsistent(), true);
    }

    // ---- promises 47 to 57 ----

    private static void outputAndScripts() {
        output();
        type();
        scriptsOfEachCommand();
        scriptsWithoutForm();
        scriptsThatFail();
        undo();
        undoOfScripts();
        saveAndRestore();
    }

    private static void output() {
        ColourOffice office = new ColourOffice();
        refused("49: empty at first", IndexOutOfBoundsException.class, () -> office.outputAt(0));
        refused("47: no such colour", ELEMENT, () -> office.renderColour(0));
        refused("48: no such report", ELEMENT, () -> office.renderReport(0));
        office.addColour(0, 99, 5, 9);
        office.addColour(50, 50, 50, 2);
        office.report(20, 20, 99, 30, 15);
        office.report(0, 1, 2, 9999, 1);
        same("47: a colour", text(office, office.renderColour(0)), "0#0/99/5f9d0");
        office.passDays(99);
        office.passDays(99);
        same("47: an old grey colour", text(office, office.renderColour(1)), "1#50/50/50f2d198g");
        same("48: a report", text(office, office.renderReport(0)), "0?20/20/99~30+15");
        same("48: a longer report", text(office, office.renderReport(1)), "1?0/1/2~9999+1");
        for (int id : WRONG_IDS) {
            refused("47: no such colour", ELEMENT, () -> office.renderColour(id));
            refused("48: no such report", ELEMENT, () -> office.renderReport(id));
        }
        same("49: the text stays after a refusal", text(office, 14), "1?0/1/2~9999+1");
        for (int wrong : new int[] {-1, 14, Integer.MAX_VALUE, Integer.MIN_VALUE}) {
            refused("49: no such index", IndexOutOfBoundsException.class, () -> office.outputAt(wrong));
        }
        for (int more = 0; more < 10; more++) {
            office.discard(office.addColour(1, 2, 3, 4));
        }
        same("47: an id of two digits", text(office, office.renderColour(office.addColour(1, 2, 3, 4))),
                "12#1/2/3f4d0");
        office.undo();
        same("49: undo leaves the text", text(office, 12), "12#1/2/3f4d0");
    }

    private static void type() {
        ColourOffice office = new ColourOffice();
        for (char wrong : new char[] {31, 127, 0, '\n', 200, '\uffff'}) {
            refused("50: wrong character", ARGUMENT, () -> office.type(wrong));
        }
        same("50: the least character", office.type(' '), 1);
        same("50: the greatest character", office.type('~'), 2);
        for (int length = 3; length <= 60; length++) {
            same("50: length", office.type('x'), length);
        }
        refused("50: full", STATE, () -> office.type('x'));
        refused("50: full and wrong", ARGUMENT, () -> office.type((char) 31));
        refused("51: no form", ARGUMENT, () -> office.runScript());
        same("52: at once", office.errorPosition(), 0);
        same("50: empty again", office.type('x'), 1);
    }

    private static void scriptsOfEachCommand() {
        ColourOffice office = new ColourOffice();
        same("51: find", Offices.run(office, "find 1/02/0099 9;find 10/0/0 1;find 20/0/0 1;find 5/5/5 2"), 4);
        same("51: report", Offices.run(office, "report 1/2/3 9999 99;report 20/0/0 1 7;report 0/0/0 0 1"), 3);
        same("51: what stands", dump(office), "0m 0 0 0 c0:1/2/99f9d0 c1:10/0/0f1d0 c2:20/0/0f1d0 c3:5/5/5f2d0"
                + " r0:9999+99 r1:1+7 r2:0+1");
        same("51: drop", Offices.run(office, "drop 2;discard 0;return 1 2;mix 3 1"), 4);
        same("51: what stands", dump(office), "0m 6 6 1 c4:7/2/2f1d0 r0:9999+99");
        same("51: day", Offices.run(office, "day;day 2;metric g;metric s;metric m;settle"), 6);
        same("51: what stands", dump(office), "3m 105 105 2");
        same("51: a day at the end", Offices.run(office, "day"), 1);
        same("51: the most commands", Offices.run(office, "day;".repeat(14) + "day"), 15);
        same("51: the days", office.day(), 19);
        same("51: days of four digits", Offices.run(office, "day 0099"), 1);
        same("51: the days", office.day(), 118);
    }

    private static void scriptsWithoutForm() {
        ColourOffice office = new ColourOffice();
        refused("52: no such script", ELEMENT, () -> office.errorPosition());
        Object[][] wrong = {{"", 0}, {"x", 0}, {" day", 0}, {"d", 1}, {"dx", 1}, {"dro", 3}, {"dry", 2}, {"da", 2},
            {"day ", 4}, {"dayx", 3}, {"day  1", 4}, {"day 12345", 8}, {"day 1 ", 5}, {"day;", 4}, {"day;;", 4},
            {"day ;", 4}, {"re", 2}, {"rex", 2}, {"reporx", 5}, {"returm", 5}, {"report", 6}, {"report ", 7},
            {"report 1/2/3", 12}, {"report 1/2/3 4", 14}, {"report 1/2/3 4 5 6", 16}, {"report 1/2 3", 10},
            {"find 1/2/3", 10}, {"find 1/2/3 ", 11}, {"find 12345/2/3 4", 9}, {"find /2/3 4", 5}, {"find -1/2/3 4", 5},
            {"find 1/2/3/4", 10}, {"find 1/2/3 4;", 13}, {"find1", 4}, {"Find", 0}, {"settle ", 6}, {"settl", 5},
            {"metric", 6}, {"metric ", 7}, {"metric x", 7}, {"metric mm", 8}, {"me", 2}, {"mi", 2}, {"mo", 1},
            {"mix 1", 5}, {"mix 1 ", 6}, {"mix 1  2", 6}, {"return 1", 8}, {"return 1;", 8}, {"discard", 7},
            {"dis 1", 3}, {"discard x", 8}, {"drop 1;drop ?", 12}, {"settle;day 1;find 1/2/3 x", 24}};
        for (Object[] w : wrong) {
            Offices.type(office, (String) w[0]);
            refused("51: " + w[0], ARGUMENT, () -> office.runScript());
            same("52: " + w[0], office.errorPosition(), w[1]);
        }
        refused("51: the buffer is empty again", ARGUMENT, () -> office.runScript());
        same("52: the latest such script", office.errorPosition(), 0);
        Offices.type(office, "day;dax");
        refused("51: nothing takes effect", ARGUMENT, () -> office.runScript());
        same("51: nothing takes effect", office.day(), 0);
        same("51: a right script", Offices.run(office, "day"), 1);
        same("52: the latest such script", office.errorPosition(), 6);
        office.undo();
        same("52: undo leaves it", office.errorPosition(), 6);
        refused("53: no failed command", ELEMENT, () -> office.failedCommand());
        refused("54: no failed command", ELEMENT, () -> office.failureKind());
        refused("55: no change by wrong scripts", ELEMENT, () -> office.undo());
    }

    private static void scriptsThatFail() {
        ColourOffice office = Offices.officeOf(c(0, 0, 0, 1), c(9, 9, 9, 1));
        office.report(1, 1, 1, 99, 5);
        String before = dump(office);
        refused("53: no such script", ELEMENT, () -> office.failedCommand());
        refused("54: no such script", ELEMENT, () -> office.failureKind());
        Object[][] failing = {{"find 100/0/0 1", 0, 'a'}, {"day;find 1/1/1 0", 1, 'a'}, {"report 0/0/0 1 0", 0, 'a'},
            {"metric g;day;drop 1", 2, 'e'}, {"discard 0;discard 0", 1, 'e'}, {"return 1 0", 0, 'e'},
            {"return 0 2", 0, 'e'}, {"return 0 1", 0, 'u'}, {"mix 0 0", 0, 'a'}, {"mix 2 2", 0, 'e'},
            {"settle;mix 0 1", 1, 'e'}, {"day 0", 0, 'a'}, {"day 99;day 100", 1, 'a'},
            {"mix 0 1;discard 2;drop 0;drop 0;day", 3, 'e'}};
        for (Object[] f : failing) {
            Offices.type(office, (String) f[0]);
            refused("51: " + f[0], STATE, () -> office.runScript());
            same("53: " + f[0], office.failedCommand(), f[1]);
            same("54: " + f[0], office.failureKind(), f[2]);
            same("51: no command takes effect: " + f[0], dump(office), before);
        }
        refused("51: the buffer is empty again", ARGUMENT, () -> office.runScript());
        same("51: ids of failed scripts are given again", office.addColour(1, 2, 3, 4), 2);
        for (int more = 0; more < 7; more++) {
            office.addColour(1, 2, 3, 4);
        }
        Offices.type(office, "day;find 1/1/1 1");
        refused("51: an eleventh colour", STATE, () -> office.runScript());
        same("53: an eleventh colour", office.failedCommand(), 1);
        same("54: an eleventh colour", office.failureKind(), 's');
        same("51: a right script", Offices.run(office, "day"), 1);
        office.undo();
        same("53: the latest such script", office.failedCommand(), 1);
        same("54: the latest such script", office.failureKind(), 's');
        same("55: eight changes less one of undo, none by failed scripts", office.undo(), 6);
    }

    private static void undo() {
        ColourOffice office = new ColourOffice();
        refused("55: nothing to undo", ELEMENT, () -> office.undo());
        String[] dumps = new String[12];
        for (int change = 0; change < 9; change++) {
            dumps[change] = dump(office);
            change(office, change);
            if (change < 8) {
                same("55: changes to undo", undone(office, change), change);
            }
        }
        for (int change = 8; change > 0; change--) {
            same("55: changes that are left", office.undo(), change - 1);
            same("55: the state before change " + change, dump(office), dumps[change]);
        }
        refused("55: eight changes at most", ELEMENT, () -> office.undo());
        same("55: ids are given again", office.addColour(1, 1, 1, 1), 1);
        refused("55: a refusal is no change", ARGUMENT, () -> office.passDays(0));
        same("55: a new change", office.undo(), 0);
        office.save();
        office.bestReward();
        office.isConsistent();
        office.renderColour(0);
        refused("55: what only tells is no change", ELEMENT, () -> office.undo());
    }

    private static void change(ColourOffice office, int change) {
        switch (change) {
            case 0 -> office.addColour(10, 10, 10, 1);
            case 1 -> office.report(10, 10, 10, 5, 20);
            case 2 -> office.giveBack(0, 0);
            case 3 -> office.addColour(20, 20, 20, 1);
            case 4 -> office.passDays(3);
            case 5 -> office.setMetric('s');
            case 6 -> office.addColour(30, 30, 30, 1);
            case 7 -> office.mix(1, 2);
            default -> office.discard(3);
        }
    }

    /** Undoes a change, does it again, and answers what undo answered. */
    private static int undone(ColourOffice office, int change) {
        String after = dump(office);
        int left = office.undo();
        change(office, change);
        same("55: done again", dump(office), after);
        return left;
    }

    private static void undoOfScripts() {
        ColourOffice office = Offices.officeOf(c(10, 10, 10, 1));
        String before = dump(office);
        Offices.run(office, "day;report 11/11/11 9 9;settle");
        same("55: a script is one change", dump(office), "1m 9 9 1");
        Offices.type(office, "da");
        same("55: changes that are left", office.undo(), 1);
        same("55: all of the script", dump(office), before);
        same("55: undo leaves the buffer", office.type('y'), 3);
        same("55: undo leaves the buffer", office.runScript(), 1);
        office.withdraw(office.report(1, 1, 1, 1, 1));
        office.settle();
        office.setMetric('m');
        same("55: changes that leave the state as it was count", office.undo(), 5);
        same("55: and a withdrawal", office.undo() + office.undo(), 4 + 3);
        same("55: and it is open again", office.reportCount(), 1);
        same("55: and the report", office.undo(), 2);
        same("55: its id is given again", office.report(1, 1, 1, 1, 1), 0);
    }

    private static void saveAndRestore() {
        ColourOffice office = Offices.officeOf(c(1, 1, 1, 1), c(2, 2, 2, 2));
        refused("57: no snapshot", STATE, () -> office.restore());
        same("56: colours", office.save(), 2);
        same("56: save leaves what can be undone", office.undo(), 1);
        same("57: colours", office.restore(), 2);
        refused("57: nothing to undo afterwards", ELEMENT, () -> office.undo());
        office.report(1, 1, 1, 9, 9);
        office.setMetric('g');
        office.passDays(4);
        office.settle();
        office.discard(0);
        office.renderColour(office.addColour(7, 7, 7, 7));
        Offices.type(office, "da");
        same("57: again", office.restore(), 2);
        same("57: all of it", dump(office), "0m 0 0 0 c0:1/1/1f1d0 c1:2/2/2f2d0");
        same("57: the buffer stays", office.type('y'), 3);
        same("57: the text stays", text(office, 11), "2#7/7/7f7d0");
        same("57: ids are given again", office.addColour(3, 3, 3, 3), 2);
        same("57: ids of reports are given again", office.report(3, 3, 3, 3, 3), 0);
        same("56: a later snapshot", office.save(), 3);
        office.discard(0);
        same("57: the later one", office.restore(), 3);
        same("57: the later one", dump(office), "0m 0 0 0 c0:1/1/1f1d0 c1:2/2/2f2d0 c2:3/3/3f3d0 r0:3+3");
        refused("57: nothing to undo afterwards", ELEMENT, () -> office.undo());
    }
}
