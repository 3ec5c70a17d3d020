/** Offices that tests begin with, and ways to type into them and to read them. */
final class Offices {
    /** Sixty characters, the most that the script buffer takes, and a script of fourteen commands. */
    static final String LONGEST_SCRIPT = "day;".repeat(13) + "metric g";

    private Offices() {
    }

    static int[] c(int red, int green, int blue, int fastness) {
        return new int[] {red, green, blue, fastness};
    }

    static ColourOffice officeOf(int[]... colours) {
        ColourOffice office = new ColourOffice();
        for (int[] c : colours) {
            office.addColour(c[0], c[1], c[2], c[3]);
        }
        return office;
    }

    /** Some of everything: colours, reports, coins, days, changes, a snapshot, text, failures and a typed script. */
    static ColourOffice used() {
        ColourOffice office = officeOf(c(10, 20, 30, 1), c(50, 50, 50, 3), c(80, 20, 51, 9));
        office.report(11, 20, 30, 5, 7);
        office.report(80, 80, 80, 9999, 99);
        office.save();
        office.passDays(4);
        office.addColour(0, 99, 49, 2);
        office.setMetric('g');
        office.discard(1);
        refusedScript(office, "day;dax");
        refusedScript(office, "day;discard 7");
        office.renderColour(0);
        type(office, "day 2;metric s");
        return office;
    }

    /** Ten colours, six reports, more changes than can be undone and a full script buffer. */
    static ColourOffice full() {
        ColourOffice office = new ColourOffice();
        office.discard(office.addColour(1, 1, 1, 1));
        office.withdraw(office.report(1, 1, 1, 1, 1));
        for (int number = 0; number < 10; number++) {
            office.addColour(number * 11, 99 - number * 7, 50, 1 + number % 9);
        }
        for (int number = 0; number < 6; number++) {
            office.report(number * 19, 50, 99 - number * 3, 30 + number, 99 - number);
        }
        office.save();
        office.passDays(1);
        office.renderReport(6);
        refusedScript(office, "");
        refusedScript(office, "drop 0");
        type(office, LONGEST_SCRIPT);
        return office;
    }

    static void type(ColourOffice office, String text) {
        for (char sign : text.toCharArray()) {
            office.type(sign);
        }
    }

    static int run(ColourOffice office, String script) {
        type(office, script);
        return office.runScript();
    }

    private static void refusedScript(ColourOffice office, String script) {
        try {
            run(office, script);
        } catch (IllegalArgumentException | IllegalStateException refused) {
            return;
        }
        throw new AssertionError("not refused: " + script);
    }

    /** The output text, read until it ends. */
    static String text(ColourOffice office) {
        StringBuilder text = new StringBuilder();
        try {
            for (int index = 0; index < 100; index++) {
                text.append(office.outputAt(index));
            }
        } catch (IndexOutOfBoundsException end) {
            return text.toString();
        }
        return text + "..";
    }
}
