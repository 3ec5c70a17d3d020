import java.util.NoSuchElementException;
import java.util.function.Consumer;
import java.util.function.Supplier;

/**
 * Each refused call throws the exception that the document names, the one that is listed first if several apply, and
 * changes nothing: an office behind the refusal is compared in all that can be told of it with one without the call.
 */
public final class RefusalTest {
    private static final Class<IllegalArgumentException> ARGUMENT = IllegalArgumentException.class;
    private static final Class<IllegalStateException> STATE = IllegalStateException.class;
    private static final Class<NoSuchElementException> ELEMENT = NoSuchElementException.class;
    private static final Class<UnsupportedOperationException> UNSUPPORTED = UnsupportedOperationException.class;
    private static final Class<IndexOutOfBoundsException> INDEX = IndexOutOfBoundsException.class;
    private static final Class<ArithmeticException> ARITHMETIC = ArithmeticException.class;

    private static final int MOST = Integer.MAX_VALUE;
    private static final int LEAST = Integer.MIN_VALUE;
    private static final int[] WRONG_PARTS = {-1, 100, MOST, LEAST};

    private static final Checks CHECKS = new Checks();

    private final String name;
    private final Supplier<ColourOffice> make;
    private final String untouched;

    private RefusalTest(String name, Supplier<ColourOffice> make) {
        this.name = name;
        this.make = make;
        this.untouched = Whole.of(make);
    }

    public static void main(String[] args) {
        RefusalTest empty = new RefusalTest("empty office", ColourOffice::new);
        RefusalTest used = new RefusalTest("used office", Offices::used);
        RefusalTest full = new RefusalTest("full office", Offices::full);
        for (RefusalTest office : new RefusalTest[] {empty, used, full}) {
            office.wrongArguments();
            office.wrongIds(-1, 99, MOST, LEAST);
            office.wrongPositions(-1, 60, MOST, LEAST);
        }
        empty.wrongIds(0);
        empty.wrongPositions(0);
        empty.nothingThere();
        used.wrongIds(4);
        used.goneColour(1);
        used.wrongPairs();
        full.wrongIds(11);
        full.goneColour(0);
        full.goneReport(0);
        full.noPlace();
        fewColours();
        CHECKS.end("RefusalTest");
    }

    private void refused(String what, Class<? extends RuntimeException> kind, Consumer<ColourOffice> call) {
        String after = Whole.of(() -> {
            ColourOffice office = make.get();
            CHECKS.refused(name + ", " + what, kind, () -> call.accept(office));
            return office;
        });
        CHECKS.same(name + ", " + what + " changes nothing", after, untouched);
    }

    // Wrong arguments are refused so in every office: also in an empty one, and also in a full one.
    private void wrongArguments() {
        for (int part : WRONG_PARTS) {
            refused("2: red " + part, ARGUMENT, o -> o.addColour(part, 0, 0, 1));
            refused("2: green " + part, ARGUMENT, o -> o.addColour(0, part, 0, 1));
            refused("2: blue " + part, ARGUMENT, o -> o.addColour(0, 0, part, 1));
            refused("3: red " + part, ARGUMENT, o -> o.report(part, 0, 0, 0, 1));
            refused("3: green " + part, ARGUMENT, o -> o.report(0, part, 0, 0, 1));
            refused("3: blue " + part, ARGUMENT, o -> o.report(0, 0, part, 0, 1));
            refused("28: red " + part, ARGUMENT, o -> o.nearest(part, 0, 0));
            refused("28: green " + part, ARGUMENT, o -> o.nearest(0, part, 0));
            refused("28: blue " + part, ARGUMENT, o -> o.nearest(0, 0, part));
            refused("29: red " + part, ARGUMENT, o -> o.nearestByLooking(part, 0, 0));
            refused("29: green " + part, ARGUMENT, o -> o.nearestByLooking(0, part, 0));
            refused("29: blue " + part, ARGUMENT, o -> o.nearestByLooking(0, 0, part));
        }
        for (int fastness : new int[] {0, 10, -1, MOST, LEAST}) {
            refused("2: fastness " + fastness, ARGUMENT, o -> o.addColour(0, 0, 0, fastness));
        }
        for (int tolerance : new int[] {-1, 10000, MOST, LEAST}) {
            refused("3: tolerance " + tolerance, ARGUMENT, o -> o.report(0, 0, 0, tolerance, 1));
        }
        for (int reward : new int[] {0, 100, -1, MOST, LEAST}) {
            refused("3: reward " + reward, ARGUMENT, o -> o.report(0, 0, 0, 0, reward));
        }
        for (char metric : new char[] {'x', 'M', 'S', 'G', 'l', 'n', 'r', 't', 'f', 'h', ' ', 0, '\uffff'}) {
            refused("6: metric " + (int) metric, ARGUMENT, o -> o.setMetric(metric));
        }
        for (int days : new int[] {0, 100, -1, MOST, LEAST}) {
            refused("10: days " + days, ARGUMENT, o -> o.passDays(days));
        }
        for (int size : new int[] {0, 11, -1, MOST, LEAST}) {
            refused("36: size " + size, ARGUMENT, o -> o.paletteError(size));
            refused("37: size " + size, ARGUMENT, o -> o.paletteErrorBySearch(size));
            refused("38: size " + size, ARGUMENT, o -> o.paletteColour(size, 0));
            refused("38: size and position " + size, ARGUMENT, o -> o.paletteColour(size, -1));
        }
        for (char sign : new char[] {31, 127, 0, '\n', 128, 288, '\uffff'}) {
            refused("50: sign " + (int) sign, ARGUMENT, o -> o.type(sign));
        }
    }

    private void wrongIds(int... ids) {
        for (int id : ids) {
            goneColour(id);
            goneReport(id);
            refused("7: no report and no colour " + id, ELEMENT, o -> o.giveBack(id, id));
            refused("24: no report and no colour " + id, ELEMENT, o -> o.distanceFor(id, id));
            refused("25: no report and no colour " + id, ELEMENT, o -> o.fits(id, id));
        }
    }

    /** With the first open report and the first found colour, if there are any, beside the one that is not there. */
    private void goneColour(int id) {
        int report = firstReport();
        int colour = firstColour();
        refused("5: no colour " + id, ELEMENT, o -> o.discard(id));
        refused("7: no colour " + id, ELEMENT, o -> o.giveBack(report, id));
        refused("9: no first colour " + id, ELEMENT, o -> o.mix(id, colour));
        refused("9: no second colour " + id, ELEMENT, o -> o.mix(colour, id));
        refused("9: the same and no colour " + id, ELEMENT, o -> o.mix(id, id));
        refused("13: no colour " + id, ELEMENT, o -> o.red(id));
        refused("14: no colour " + id, ELEMENT, o -> o.green(id));
        refused("15: no colour " + id, ELEMENT, o -> o.blue(id));
        refused("16: no colour " + id, ELEMENT, o -> o.fastness(id));
        refused("17: no colour " + id, ELEMENT, o -> o.age(id));
        refused("18: no colour " + id, ELEMENT, o -> o.daysUntilGrey(id));
        refused("24: no colour " + id, ELEMENT, o -> o.distanceFor(report, id));
        refused("25: no colour " + id, ELEMENT, o -> o.fits(report, id));
        refused("27: no first colour " + id, ELEMENT, o -> o.distance(id, colour));
        refused("27: no second colour " + id, ELEMENT, o -> o.distance(colour, id));
        refused("27: the same and no colour " + id, ELEMENT, o -> o.distance(id, id));
        refused("47: no colour " + id, ELEMENT, o -> o.renderColour(id));
    }

    private void goneReport(int id) {
        int colour = firstColour();
        refused("4: no report " + id, ELEMENT, o -> o.withdraw(id));
        refused("7: no report " + id, ELEMENT, o -> o.giveBack(id, colour));
        refused("22: no report " + id, ELEMENT, o -> o.toleranceOf(id));
        refused("23: no report " + id, ELEMENT, o -> o.rewardOf(id));
        refused("24: no report " + id, ELEMENT, o -> o.distanceFor(id, colour));
        refused("25: no report " + id, ELEMENT, o -> o.fits(id, colour));
        refused("26: no report " + id, ELEMENT, o -> o.nearestFor(id));
        refused("35: no report " + id, ELEMENT, o -> o.settlementFor(id));
        refused("48: no report " + id, ELEMENT, o -> o.renderReport(id));
    }

    private int firstColour() {
        ColourOffice office = make.get();
        return office.colourCount() > 0 ? office.colourAt(0) : 0;
    }

    private int firstReport() {
        ColourOffice office = make.get();
        return office.reportCount() > 0 ? office.reportAt(0) : 0;
    }

    private void wrongPositions(int... positions) {
        for (int position : positions) {
            refused("12: position " + position, ELEMENT, o -> o.colourAt(position));
            refused("19: rank " + position, ELEMENT, o -> o.colourByBrightness(position));
            refused("21: position " + position, ELEMENT, o -> o.reportAt(position));
            refused("49: index " + position, INDEX, o -> o.outputAt(position));
        }
        refused("12: position of the number of colours", ELEMENT, o -> o.colourAt(o.colourCount()));
        refused("19: rank of the number of colours", ELEMENT, o -> o.colourByBrightness(o.colourCount()));
        refused("21: position of the number of reports", ELEMENT, o -> o.reportAt(o.reportCount()));
        int length = Offices.text(make.get()).length();
        refused("49: index of the length of the text", INDEX, o -> o.outputAt(length));
        int size = make.get().colourCount();
        refused("36: a size beyond the number of colours", ARGUMENT, o -> o.paletteError(size + 1));
        refused("37: a size beyond the number of colours", ARGUMENT, o -> o.paletteErrorBySearch(size + 1));
        refused("38: a size beyond the number of colours", ARGUMENT, o -> o.paletteColour(size + 1, 0));
        for (int palette = 1; palette <= size; palette++) {
            int all = palette;
            for (int position : new int[] {-1, all, MOST, LEAST}) {
                refused("38: position " + position + " of " + all, ELEMENT, o -> o.paletteColour(all, position));
            }
        }
    }

    private void nothingThere() {
        refused("28: no found colours", ELEMENT, o -> o.nearest(0, 0, 0));
        refused("28: no found colours", ELEMENT, o -> o.nearest(99, 99, 99));
        refused("29: no found colours", ELEMENT, o -> o.nearestByLooking(0, 0, 0));
        refused("29: no found colours", ELEMENT, o -> o.nearestByLooking(99, 99, 99));
        refused("30: no found colours", ELEMENT, o -> o.closestDistance());
        refused("31: no found colours", ELEMENT, o -> o.closestDistanceBySorting());
        refused("44: no found colours", ARITHMETIC, o -> o.meanBrightness());
        refused("45: no found colours", ARITHMETIC, o -> o.greyShare());
        refused("52: no script without the form", ELEMENT, o -> o.errorPosition());
        refused("53: no failed command", ELEMENT, o -> o.failedCommand());
        refused("54: no failed command", ELEMENT, o -> o.failureKind());
        refused("55: nothing to undo", ELEMENT, o -> o.undo());
        refused("57: no snapshot", STATE, o -> o.restore());
    }

    private void wrongPairs() {
        refused("7: not the nearest one", UNSUPPORTED, o -> o.giveBack(0, 2));
        refused("7: not the nearest one", UNSUPPORTED, o -> o.giveBack(1, 3));
        refused("7: no colour for any report", ELEMENT, o -> o.giveBack(2, 2));
        refused("9: both are the same", ARGUMENT, o -> o.mix(0, 0));
        refused("9: both are the same", ARGUMENT, o -> o.mix(3, 3));
    }

    private void noPlace() {
        refused("2: an eleventh colour", STATE, o -> o.addColour(0, 0, 0, 1));
        refused("2: an eleventh colour", STATE, o -> o.addColour(99, 99, 99, 9));
        refused("3: a seventh report", STATE, o -> o.report(0, 0, 0, 0, 1));
        refused("3: a seventh report", STATE, o -> o.report(99, 99, 99, 9999, 99));
        refused("50: a sixty-first character", STATE, o -> o.type(' '));
        refused("50: a sixty-first character", STATE, o -> o.type('~'));
    }

    /** What is refused because there are no colours for the reports, one colour, or none that fits. */
    private static void fewColours() {
        RefusalTest none = new RefusalTest("reports alone", () -> {
            ColourOffice office = new ColourOffice();
            office.report(1, 2, 3, 9999, 9);
            return office;
        });
        none.refused("7: no such colour", ELEMENT, o -> o.giveBack(0, 0));
        none.refused("24: no such colour", ELEMENT, o -> o.distanceFor(0, 0));
        none.refused("25: no such colour", ELEMENT, o -> o.fits(0, 0));
        none.refused("26: no found colours", ELEMENT, o -> o.nearestFor(0));
        none.refused("35: it gets none", ELEMENT, o -> o.settlementFor(0));
        RefusalTest one = new RefusalTest("one colour", () -> {
            ColourOffice office = Offices.officeOf(Offices.c(9, 9, 9, 9));
            office.report(9, 9, 7, 1, 5);
            office.report(9, 9, 9, 0, 5);
            office.report(9, 9, 8, 1, 5);
            return office;
        });
        one.refused("7: it does not fit", UNSUPPORTED, o -> o.giveBack(0, 0));
        one.refused("9: one colour twice", ARGUMENT, o -> o.mix(0, 0));
        one.refused("30: one colour", ELEMENT, o -> o.closestDistance());
        one.refused("31: one colour", ELEMENT, o -> o.closestDistanceBySorting());
        one.refused("35: none fits", ELEMENT, o -> o.settlementFor(0));
        one.refused("35: another one gets it", ELEMENT, o -> o.settlementFor(2));
    }
}
