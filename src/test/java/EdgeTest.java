import java.util.NoSuchElementException;
import java.util.function.Function;

/**
 * The edges of the promises' answers, in the promises' order: the least and the greatest argument and answer, the
 * empty office, the one with one colour, and the full one. What the terms name is in TermsTest, the form of scripts in
 * ScriptTest, and what each refusal changes in RefusalTest.
 */
public final class EdgeTest {
    private static final Class<IllegalArgumentException> ARGUMENT = IllegalArgumentException.class;
    private static final Class<IllegalStateException> STATE = IllegalStateException.class;
    private static final Class<NoSuchElementException> ELEMENT = NoSuchElementException.class;
    private static final Class<UnsupportedOperationException> UNSUPPORTED = UnsupportedOperationException.class;
    private static final Class<IndexOutOfBoundsException> INDEX = IndexOutOfBoundsException.class;
    private static final Class<ArithmeticException> ARITHMETIC = ArithmeticException.class;

    private static final Checks CHECKS = new Checks();

    private EdgeTest() {
    }

    public static void main(String[] args) {
        changes();
        foundColours();
        reports();
        distances();
        settlementsAndPalettes();
        totalsAndChecks();
        outputAndScripts();
        CHECKS.end("EdgeTest");
    }

    private static void same(String what, Object got, Object due) {
        CHECKS.same(what, got, due);
    }

    private static void refused(String what, Class<? extends RuntimeException> kind, Runnable call) {
        CHECKS.refused(what, kind, call);
    }

    private static int[] c(int red, int green, int blue, int fastness) {
        return Offices.c(red, green, blue, fastness);
    }

    private static ColourOffice ten(int red, int green, int blue, int fastness) {
        ColourOffice office = new ColourOffice();
        for (int number = 0; number < 10; number++) {
            office.addColour(red, green, blue, fastness);
        }
        return office;
    }

    // ---- promises 1 to 10 ----

    private static void changes() {
        newOffice();
        twoOffices();
        withdrawUntilNoneIsOpen();
        discardUntilNoneIsLeft();
        eachMetricToEach();
        giveBackAtTheEdges();
        settleNoneAndAll();
        mixAtTheEdges();
        passOneAnd99Days();
    }

    private static void newOffice() {
        ColourOffice office = new ColourOffice();
        same("1: totals", Whole.now(office), "0m 0 0 0");
        same("1: colours and reports", office.colourCount() + office.reportCount(), 0);
        same("1: settlements", office.bestReward() + office.bestRewardByTrying() + office.bestDifference(), 0);
        same("1: consistent", office.isConsistent(), true);
        same("1: settle", new ColourOffice().settle(), 0);
        same("1: passDays", new ColourOffice().passDays(99), 0);
        same("1: type", new ColourOffice().type('x'), 1);
        same("1: save", office.save(), 0);
        same("1: restore", office.restore(), 0);
    }

    private static void twoOffices() {
        ColourOffice one = Offices.used();
        ColourOffice other = new ColourOffice();
        same("1: an office has nothing of another", Whole.now(other), "0m 0 0 0");
        String before = Whole.now(one);
        other.addColour(1, 1, 1, 1);
        other.setMetric('s');
        other.passDays(9);
        other.save();
        other.settle();
        same("1: an office gets nothing of another", Whole.now(one), before);
    }

    private static void withdrawUntilNoneIsOpen() {
        for (int[] order : new int[][] {{0, 1, 2, 3, 4, 5}, {5, 4, 3, 2, 1, 0}, {3, 0, 5, 1, 4, 2}}) {
            ColourOffice office = new ColourOffice();
            for (int number = 0; number < 6; number++) {
                office.report(number, 0, 0, number * 10, number + 1);
            }
            for (int left = 5; left >= 0; left--) {
                int id = order[5 - left];
                same("4: reports left", office.withdraw(id), left);
                refused("4: it is not open any more", ELEMENT, () -> office.withdraw(id));
                refused("4: it is not open any more", ELEMENT, () -> office.rewardOf(id));
                for (int open = 6 - left; open < 6; open++) {
                    same("4: the others stay", office.toleranceOf(order[open]), order[open] * 10);
                    same("4: the others stay", office.rewardOf(order[open]), order[open] + 1);
                }
            }
            same("4: it costs nothing", office.coins(), 0);
        }
    }

    private static void discardUntilNoneIsLeft() {
        ColourOffice office = new ColourOffice();
        for (int number = 0; number < 10; number++) {
            office.addColour(number, 0, 99 - number, 1 + number % 9);
        }
        int[] order = {9, 0, 4, 5, 1, 8, 2, 7, 3, 6};
        for (int left = 9; left >= 0; left--) {
            int id = order[9 - left];
            same("5: colours left", office.discard(id), left);
            same("5: a coin each", office.coins(), left - 10);
            refused("5: it is gone", ELEMENT, () -> office.discard(id));
            for (int found = 10 - left; found < 10; found++) {
                int other = order[found];
                same("5: the others stay", office.red(other) * 1000 + office.blue(other) * 10 + office.fastness(other),
                        other * 1000 + (99 - other) * 10 + 1 + other % 9);
            }
        }
        same("5: coins by accounts", office.coinsByAccounts(), -10);
        same("5: none is returned", office.returnedTotal(), 0);
    }

    private static void eachMetricToEach() {
        for (char from : "msg".toCharArray()) {
            for (char to : "msg".toCharArray()) {
                ColourOffice office = new ColourOffice();
                office.setMetric(from);
                same("6: the previous metric", office.setMetric(to), from);
                same("6: the new metric", office.metric(), to);
                same("6: and once more", office.setMetric(from), to);
            }
        }
        for (char letter = 0; letter < 300; letter++) {
            char metric = letter;
            if ("msg".indexOf(letter) < 0) {
                refused("6: no such metric", ARGUMENT, () -> new ColourOffice().setMetric(metric));
            }
        }
    }

    private static void giveBackAtTheEdges() {
        ColourOffice full = ten(0, 0, 0, 1);
        full.setMetric('s');
        for (int number = 0; number < 6; number++) {
            full.report(0, 0, 0, 0, 99);
        }
        refused("7: of ten equal ones the last", UNSUPPORTED, () -> full.giveBack(5, 9));
        same("7: of ten equal ones the first, for the last report", full.giveBack(5, 0), 99);
        refused("7: the first one is gone", ELEMENT, () -> full.giveBack(4, 0));
        refused("7: the report is gone", ELEMENT, () -> full.giveBack(5, 1));
        same("7: the next one, for the first report", full.giveBack(0, 1), 99);
        same("7: what is left", full.colourCount() * 100 + full.reportCount() * 10 + full.returnedTotal(), 842);
        ColourOffice far = Offices.officeOf(c(79, 51, 34, 1));
        far.setMetric('s');
        far.report(0, 0, 0, 9997, 1);
        far.report(0, 0, 0, 9998, 1);
        refused("7: a distance of the tolerance and 1", UNSUPPORTED, () -> far.giveBack(0, 0));
        same("7: a distance of the tolerance", far.giveBack(1, 0), 1);
        ColourOffice wide = Offices.officeOf(c(5, 5, 5, 1), c(6, 5, 5, 1));
        wide.report(6, 5, 5, 9999, 9);
        refused("7: one that fits and is not the nearest one", UNSUPPORTED, () -> wide.giveBack(0, 0));
        same("7: the nearest one", wide.giveBack(0, 1), 9);
    }

    private static void settleNoneAndAll() {
        ColourOffice reportsAlone = new ColourOffice();
        reportsAlone.report(1, 1, 1, 9999, 99);
        same("8: no colours", reportsAlone.settle(), 0);
        same("8: the report stays", reportsAlone.reportCount(), 1);
        ColourOffice coloursAlone = ten(1, 1, 1, 1);
        same("8: no reports", coloursAlone.settle(), 0);
        same("8: the colours stay", coloursAlone.colourCount(), 10);
        ColourOffice all = new ColourOffice();
        for (int number = 0; number < 6; number++) {
            all.addColour(number, number, number, 1);
            all.report(number, number, number, 0, 1);
        }
        same("8: all of six", all.settle(), 6);
        same("8: nothing is left", Whole.now(all), "0m 6 6 6");
        same("8: and nothing more to settle", all.settle(), 0);
        same("8: undo brings nothing", all.undo(), 7);
        same("8: undo brings all of them", all.undo(), 6);
        same("8: undo brings all of them", all.colourCount() + all.reportCount(), 12);
        ColourOffice ends = ten(50, 50, 50, 1);
        ends.report(50, 50, 50, 0, 1);
        ends.report(0, 0, 0, 0, 99);
        ends.report(50, 50, 50, 0, 2);
        same("8: the first two colours", ends.settle(), 2);
        same("8: what is left", ends.colourAt(0) * 100 + ends.colourCount() * 10 + ends.reportAt(0), 281);
        same("8: returned", ends.returnedTotal(), 2);
    }

    private static void mixAtTheEdges() {
        ColourOffice office = Offices.officeOf(c(0, 99, 0, 9), c(0, 99, 1, 1), c(1, 98, 99, 9));
        same("9: the new id", office.mix(0, 1), 3);
        office.renderColour(3);
        same("9: 0 and 0, 99 and 99, 0 and 1", Offices.text(office), "3#0/99/0f1d0");
        office.passDays(1);
        same("9: the new id", office.mix(2, 3), 4);
        office.renderColour(4);
        same("9: aged ones", Offices.text(office), "4#1/98/50f1d0");
        refused("9: with itself alone", ARGUMENT, () -> office.mix(4, 4));
        refused("9: with one that is gone", ELEMENT, () -> office.mix(4, 2));
        same("9: one is left", office.colourCount(), 1);
        ColourOffice full = ten(10, 10, 10, 2);
        for (int left = 9; left >= 1; left--) {
            int first = full.colourAt(0);
            same("9: the new id", full.mix(full.colourAt(left), first), 19 - left);
            same("9: one colour less", full.colourCount(), left);
            same("9: it is the last one", full.colourAt(left - 1), 19 - left);
        }
        same("9: it costs nothing", full.coins() + full.returnedTotal(), 0);
        ColourOffice ends = Offices.officeOf(c(1, 1, 1, 1), c(2, 2, 2, 2), c(3, 3, 3, 3), c(5, 5, 5, 5));
        ends.mix(0, 3);
        same("9: those between stay", Whole.now(ends), "0m 0 0 0 c1:2/2/2f2d0 c2:3/3/3f3d0 c4:3/3/3f1d0");
        ends.mix(4, 1);
        same("9: the last and the first", Whole.now(ends), "0m 0 0 0 c2:3/3/3f3d0 c5:2/2/2f1d0");
        ColourOffice grey = Offices.officeOf(c(0, 1, 99, 3), c(99, 99, 2, 3), c(2, 99, 0, 3));
        grey.mix(0, 1);
        same("9: 49, 50 and 50 are not grey", grey.greyShare(), 0.0f);
    }

    private static void passOneAnd99Days() {
        ColourOffice grey = ten(50, 50, 50, 1);
        same("10: all ten are grey", grey.passDays(1), 10);
        ColourOffice dark = ten(0, 0, 0, 1);
        same("10: none is grey", dark.passDays(1), 0);
        same("10: none is grey after 49 days", dark.passDays(48), 0);
        same("10: all are grey after 50 days", dark.passDays(1), 10);
        ColourOffice slow = ten(0, 99, 0, 9);
        slow.passDays(99);
        slow.passDays(99);
        slow.passDays(99);
        slow.passDays(99);
        same("10: none is grey after 449 days", slow.passDays(53), 0);
        same("10: all are grey after 450 days", slow.passDays(1), 10);
        refused("10: no days", ARGUMENT, () -> slow.passDays(0));
        refused("10: a hundred days", ARGUMENT, () -> slow.passDays(100));
        same("10: the day", slow.day(), 450);
    }

    // ---- promises 11 to 19 ----

    private static void foundColours() {
        positions();
        greatestParts();
        daysUntilGrey();
        ranks();
    }

    private static void positions() {
        ColourOffice office = new ColourOffice();
        for (int count = 0; count <= 10; count++) {
            int beyond = count;
            same("11: colours", office.colourCount(), count);
            for (int position = 0; position < count; position++) {
                same("12: in the order of ids", office.colourAt(position), position);
            }
            refused("12: the position of the number", ELEMENT, () -> office.colourAt(beyond));
            refused("12: position -1", ELEMENT, () -> office.colourAt(-1));
            if (count < 10) {
                office.addColour(1, 1, 1, 1);
            }
        }
        office.discard(0);
        office.discard(9);
        office.discard(5);
        int[] due = {1, 2, 3, 4, 6, 7, 8};
        for (int position = 0; position < due.length; position++) {
            same("12: in the order of the ids that are left", office.colourAt(position), due[position]);
        }
    }

    private static void greatestParts() {
        ColourOffice office = Offices.officeOf(c(99, 0, 0, 1), c(0, 99, 0, 2), c(0, 0, 99, 9));
        int[][] due = {{99, 0, 0, 1}, {0, 99, 0, 2}, {0, 0, 99, 9}};
        for (int id = 0; id < 3; id++) {
            same("13: red", office.red(id), due[id][0]);
            same("14: green", office.green(id), due[id][1]);
            same("15: blue", office.blue(id), due[id][2]);
            same("16: fastness", office.fastness(id), due[id][3]);
            same("17: age", office.age(id), 0);
        }
        office.passDays(1);
        same("13: faded", office.red(0) * 100 + office.red(1), 9800);
        same("14: faded", office.green(0) * 100 + office.green(1), 199);
        same("15: faded", office.blue(0) * 100 + office.blue(2), 199);
        same("16: it does not fade", office.fastness(0), 1);
        same("17: a day", office.age(0), 1);
    }

    // The prediction holds on each day, for each fastness and for parts on both sides of grey.
    private static void daysUntilGrey() {
        same("18: the most days", Offices.officeOf(c(0, 0, 0, 9)).daysUntilGrey(0), 450);
        same("18: the most days of bright parts", Offices.officeOf(c(99, 99, 99, 9)).daysUntilGrey(0), 441);
        same("18: the fewest days", Offices.officeOf(c(50, 49, 50, 1)).daysUntilGrey(0), 1);
        same("18: grey", Offices.officeOf(c(50, 50, 50, 9)).daysUntilGrey(0), 0);
        for (int fastness = 1; fastness <= 9; fastness++) {
            ColourOffice office = new ColourOffice();
            office.passDays(fastness + 3);
            office.addColour(52, 50, 49, fastness);
            office.addColour(46, 51, 50, fastness);
            for (int age = 0; age <= 40; age++) {
                String what = "18: fastness " + fastness + ", age " + age;
                same(what, office.daysUntilGrey(0), Math.max(2 * fastness - age, 0));
                same(what, office.daysUntilGrey(1), Math.max(4 * fastness - age, 0));
                same(what + ", grey", office.passDays(1), age + 1 < 2 * fastness ? 0 : age + 1 < 4 * fastness ? 1 : 2);
            }
        }
    }

    private static void ranks() {
        ColourOffice equal = ten(30, 40, 50, 1);
        for (int rank = 0; rank < 10; rank++) {
            same("19: equal ones by id", equal.colourByBrightness(rank), rank);
        }
        refused("19: rank 10 of ten", ELEMENT, () -> equal.colourByBrightness(10));
        ColourOffice rising = new ColourOffice();
        for (int number = 0; number < 10; number++) {
            rising.addColour(number, number % 2 * 99, 99 - number % 2 * 99, 1);
        }
        for (int rank = 0; rank < 10; rank++) {
            same("19: descending, one apart", rising.colourByBrightness(rank), 9 - rank);
        }
        ColourOffice one = Offices.officeOf(c(0, 0, 0, 1));
        same("19: one colour", one.colourByBrightness(0), 0);
        refused("19: rank 1 of one", ELEMENT, () -> one.colourByBrightness(1));
        refused("19: rank -1", ELEMENT, () -> one.colourByBrightness(-1));
        ColourOffice ends = Offices.officeOf(c(0, 0, 0, 1), c(99, 99, 99, 1), c(99, 99, 98, 1), c(0, 0, 1, 1));
        same("19: the brightest", ends.colourByBrightness(0), 1);
        same("19: next to it", ends.colourByBrightness(1), 2);
        same("19: next to the darkest", ends.colourByBrightness(2), 3);
        same("19: the darkest", ends.colourByBrightness(3), 0);
    }

    // ---- promises 20 to 26 ----

    private static void reports() {
        positionsOfReports();
        nearestOfOneAndOfTen();
    }

    private static void positionsOfReports() {
        ColourOffice office = new ColourOffice();
        for (int count = 0; count <= 6; count++) {
            int beyond = count;
            same("20: reports", office.reportCount(), count);
            for (int position = 0; position < count; position++) {
                same("21: in the order of ids", office.reportAt(position), position);
            }
            refused("21: the position of the number", ELEMENT, () -> office.reportAt(beyond));
            refused("21: position -1", ELEMENT, () -> office.reportAt(-1));
            if (count < 6) {
                office.report(1, 1, 1, 9999 - count, 99 - count);
                same("22: tolerance", office.toleranceOf(count), 9999 - count);
                same("23: reward", office.rewardOf(count), 99 - count);
            }
        }
        office.withdraw(0);
        office.withdraw(3);
        office.report(1, 1, 1, 0, 1);
        int[] due = {1, 2, 4, 5, 6};
        for (int position = 0; position < due.length; position++) {
            same("21: in the order of the ids that are left", office.reportAt(position), due[position]);
        }
        same("22: the least tolerance", office.toleranceOf(6), 0);
        same("23: the least reward", office.rewardOf(6), 1);
        office.passDays(99);
        office.addColour(1, 1, 1, 1);
        same("24: the colour of a report does not fade", office.distanceFor(6, 0), 0);
    }

    private static void nearestOfOneAndOfTen() {
        ColourOffice one = Offices.officeOf(c(99, 99, 99, 1));
        one.report(0, 0, 0, 0, 1);
        int[] distances = {297, 29403, 99};
        for (int index = 0; index < 3; index++) {
            one.setMetric("msg".charAt(index));
            same("24: the greatest distance", one.distanceFor(0, 0), distances[index]);
            same("25: it does not fit", one.fits(0, 0), false);
            same("26: the only one, fitting or not", one.nearestFor(0), 0);
        }
        ColourOffice full = ten(20, 20, 20, 1);
        full.report(20, 20, 20, 0, 1);
        same("26: the first of ten equal ones", full.nearestFor(0), 0);
        full.discard(0);
        full.addColour(20, 20, 20, 1);
        same("26: the first of those that are left", full.nearestFor(0), 1);
        same("24: distance 0", full.distanceFor(0, 10), 0);
        same("25: 0 of 0", full.fits(0, 10), true);
    }

    // ---- promises 27 to 31 ----

    private static void distances() {
        same("27: of the only colour to itself", Offices.officeOf(c(7, 8, 9, 1)).distance(0, 0), 0);
        nearestInTheCorners();
        nearestAmongColoursInARow();
        nearestInTheWholeCube();
        closestOfTwoAndOfTen();
    }

    private static void nearestInTheCorners() {
        ColourOffice one = Offices.officeOf(c(50, 0, 99, 1));
        ColourOffice corners = new ColourOffice();
        for (int corner = 0; corner < 8; corner++) {
            corners.addColour((corner & 1) * 99, (corner >> 1 & 1) * 99, (corner >> 2) * 99, 1);
        }
        for (char metric : "msg".toCharArray()) {
            one.setMetric(metric);
            corners.setMetric(metric);
            for (int corner = 0; corner < 8; corner++) {
                int red = (corner & 1) * 99;
                int green = (corner >> 1 & 1) * 99;
                int blue = (corner >> 2) * 99;
                same("28: the only colour", one.nearest(red, green, blue), 0);
                same("29: the only colour", one.nearestByLooking(red, green, blue), 0);
                same("28: in a corner", corners.nearest(red, green, blue), corner);
                same("29: in a corner", corners.nearestByLooking(red, green, blue), corner);
                // 49 is nearer to 0, and 50 to 99.
                int near = corner ^ 7;
                same("28: next to the middle", corners.nearest(50 - red / 99, 50 - green / 99, 50 - blue / 99), near);
                same("29: next to the middle", corners.nearestByLooking(50 - red / 99, 50 - green / 99, 50 - blue / 99),
                        near);
            }
        }
    }

    // Equal in the part that the tree divides by, for each of the parts.
    private static void nearestAmongColoursInARow() {
        for (int part = 0; part < 3; part++) {
            for (char metric : "msg".toCharArray()) {
                ColourOffice office = new ColourOffice();
                office.setMetric(metric);
                for (int number = 0; number < 10; number++) {
                    int place = 90 - number * 10;
                    office.addColour(part == 0 ? place : 40, part == 1 ? place : 40, part == 2 ? place : 40, 1);
                }
                for (int place = 0; place <= 99; place++) {
                    int due = place > 94 ? 0 : 9 - (place + 4) / 10;
                    // Half way between two of them, the lower id is that of the greater part.
                    due = place % 10 == 5 && place < 90 ? 9 - (place + 5) / 10 : due;
                    int red = part == 0 ? place : 40;
                    int green = part == 1 ? place : 40;
                    int blue = part == 2 ? place : 40;
                    same("28: place " + place, office.nearest(red, green, blue), due);
                    same("29: place " + place, office.nearestByLooking(red, green, blue), due);
                }
            }
        }
    }

    // Ten colours in no order of any part, looked up from all over the cube, its edges and corners too.
    private static void nearestInTheWholeCube() {
        int[][] colours = {c(71, 3, 40, 1), c(15, 88, 62, 1), c(50, 50, 50, 1), c(97, 60, 5, 1), c(33, 21, 94, 1),
            c(4, 45, 11, 1), c(62, 77, 81, 1), c(28, 9, 27, 1), c(85, 34, 73, 1), c(41, 96, 18, 1)};
        for (int red = 0; red <= 99; red += 11) {
            for (char metric : "msg".toCharArray()) {
                ColourOffice office = Offices.officeOf(colours);
                office.setMetric(metric);
                for (int target = 0; target < 100; target++) {
                    int green = target / 10 * 11;
                    int blue = target % 10 * 11;
                    int due = nearestOf(colours, metric, red, green, blue);
                    String what = metric + " " + red + "/" + green + "/" + blue;
                    same("28: " + what, office.nearest(red, green, blue), due);
                    same("29: " + what, office.nearestByLooking(red, green, blue), due);
                }
            }
        }
    }

    private static int nearestOf(int[][] colours, char metric, int red, int green, int blue) {
        int nearest = 0;
        int least = Integer.MAX_VALUE;
        for (int number = 0; number < colours.length; number++) {
            int[] gaps = {Math.abs(colours[number][0] - red), Math.abs(colours[number][1] - green),
                Math.abs(colours[number][2] - blue)};
            int sum = gaps[0] + gaps[1] + gaps[2];
            int squares = gaps[0] * gaps[0] + gaps[1] * gaps[1] + gaps[2] * gaps[2];
            int greatest = Math.max(gaps[0], Math.max(gaps[1], gaps[2]));
            int distance = metric == 'm' ? sum : metric == 's' ? squares : greatest;
            if (distance < least) {
                least = distance;
                nearest = number;
            }
        }
        return nearest;
    }

    private static void closestOfTwoAndOfTen() {
        ColourOffice two = Offices.officeOf(c(0, 0, 0, 1));
        refused("30: one colour", ELEMENT, () -> two.closestDistance());
        refused("31: one colour", ELEMENT, () -> two.closestDistanceBySorting());
        two.addColour(99, 99, 99, 1);
        int[] greatest = {297, 29403, 99};
        for (int index = 0; index < 3; index++) {
            two.setMetric("msg".charAt(index));
            same("30: the greatest", two.closestDistance(), greatest[index]);
            same("31: the greatest", two.closestDistanceBySorting(), greatest[index]);
        }
        ColourOffice equal = ten(1, 2, 3, 1);
        same("30: ten equal ones", equal.closestDistance(), 0);
        same("31: ten equal ones", equal.closestDistanceBySorting(), 0);
        // The closest two are the first and the last, with other reds between theirs.
        ColourOffice apart = new ColourOffice();
        apart.addColour(40, 0, 0, 1);
        for (int number = 1; number <= 8; number++) {
            apart.addColour(40 + number, number % 2 * 99, 20 + number * 9, 1);
        }
        apart.addColour(49, 0, 0, 1);
        same("30: far in the order of reds", apart.closestDistance(), 9);
        same("31: far in the order of reds", apart.closestDistanceBySorting(), 9);
        // The closest two have neighbouring reds, and far ones stand between them in the order of greens or blues.
        ColourOffice reds = Offices.officeOf(c(10, 0, 99, 1), c(90, 1, 98, 1), c(50, 2, 97, 1), c(11, 3, 96, 1));
        same("30: near in the order of reds", reds.closestDistance(), 7);
        same("31: near in the order of reds", reds.closestDistanceBySorting(), 7);
        reds.setMetric('s');
        same("30: near in the order of reds", reds.closestDistance(), 19);
        same("31: near in the order of reds", reds.closestDistanceBySorting(), 19);
        redsOneNearerThanTheClosest();
    }

    // "leaving out pairs whose red parts differ too much": a pair whose reds differ by one less is not left out.
    private static void redsOneNearerThanTheClosest() {
        int[] distances = {4, 16, 4};
        for (int index = 0; index < 3; index++) {
            ColourOffice office = Offices.officeOf(c(64, 0, 50, 1), c(20, 5, 0, 1), c(60, 0, 50, 1), c(20, 0, 0, 1));
            office.setMetric("msg".charAt(index));
            same("30: reds one nearer", office.closestDistance(), distances[index]);
            same("31: reds one nearer", office.closestDistanceBySorting(), distances[index]);
            office.mix(0, 2);
            int[] left = {5, 25, 5};
            same("30: reds too far", office.closestDistance(), left[index]);
            same("31: reds too far", office.closestDistanceBySorting(), left[index]);
        }
        ColourOffice equalReds = Offices.officeOf(c(60, 0, 0, 1), c(50, 0, 0, 1), c(50, 20, 0, 1), c(59, 3, 0, 1));
        same("30: equal reds", equalReds.closestDistance(), 4);
        same("31: equal reds", equalReds.closestDistanceBySorting(), 4);
    }

    // ---- promises 32 to 38 ----

    private static void settlementsAndPalettes() {
        noColourFits();
        asManyAsThereAre();
        palettesInEachMetric();
        fullPalettes();
        eachAskedFirst();
    }

    // None of the two ways leans on what the other one has looked up before.
    private static void eachAskedFirst() {
        firstAnswer("26: asked first", office -> office.nearestFor(1), 2);
        firstAnswer("28: asked first", office -> office.nearest(31, 0, 0), 2);
        firstAnswer("29: asked first", office -> office.nearestByLooking(31, 0, 0), 2);
        firstAnswer("30: asked first", ColourOffice::closestDistance, 10);
        firstAnswer("31: asked first", ColourOffice::closestDistanceBySorting, 10);
        firstAnswer("32: asked first", ColourOffice::bestReward, 12);
        firstAnswer("33: asked first", ColourOffice::bestRewardByTrying, 12);
        firstAnswer("34: asked first", ColourOffice::bestDifference, 6);
        firstAnswer("35: asked first", office -> office.settlementFor(1), 2);
        firstAnswer("36: asked first", office -> office.paletteError(2), 10);
        firstAnswer("37: asked first", office -> office.paletteErrorBySearch(2), 10);
        firstAnswer("38: asked first", office -> office.paletteColour(2, 1), 1);
        firstAnswer("46: asked first", ColourOffice::isConsistent, true);
        firstAnswer("8: asked first", ColourOffice::settle, 2);
    }

    private static void firstAnswer(String what, Function<ColourOffice, Object> call, Object due) {
        same(what, call.apply(twoReportsForThreeColours()), due);
        ColourOffice office = twoReportsForThreeColours();
        office.save();
        office.setMetric('s');
        office.discard(1);
        office.passDays(40);
        office.report(99, 99, 99, 9999, 99);
        Whole.answer(() -> call.apply(office));
        office.restore();
        same(what + " behind other colours", call.apply(office), due);
    }

    private static ColourOffice twoReportsForThreeColours() {
        ColourOffice office = Offices.officeOf(c(20, 0, 0, 1), c(60, 0, 0, 1), c(30, 0, 0, 1));
        office.report(19, 0, 0, 9, 5);
        office.report(35, 0, 0, 9, 7);
        return office;
    }

    // "0 if no colour fits"
    private static void noColourFits() {
        ColourOffice office = ten(0, 0, 1, 1);
        for (int number = 0; number < 6; number++) {
            office.report(0, 0, 0, 0, 99);
        }
        same("32: no colour fits", office.bestReward(), 0);
        same("33: no colour fits", office.bestRewardByTrying(), 0);
        same("34: no colour fits", office.bestDifference(), 0);
        for (int number = 0; number < 6; number++) {
            int id = number;
            refused("35: no colour fits", ELEMENT, () -> office.settlementFor(id));
        }
        same("8: no colour fits", office.settle(), 0);
    }

    private static void asManyAsThereAre() {
        for (int colours = 0; colours <= 10; colours++) {
            for (int reports = 0; reports <= 6; reports++) {
                ColourOffice office = new ColourOffice();
                for (int number = 0; number < colours; number++) {
                    office.addColour(10, 10, 10, 1);
                }
                for (int number = 0; number < reports; number++) {
                    office.report(10, 10, 11, 1, 1);
                }
                int most = Math.min(colours, reports);
                String what = colours + " colours, " + reports + " reports";
                same("32: " + what, office.bestReward(), most);
                same("33: " + what, office.bestRewardByTrying(), most);
                same("34: " + what, office.bestDifference(), most);
                for (int number = 0; number < reports; number++) {
                    int id = number;
                    same("35: " + what, Whole.answer(() -> office.settlementFor(id)),
                            id < most ? "" + id : "throws NoSuchElementException");
                }
                same("46: " + what, office.isConsistent(), true);
                same("8: " + what, office.settle(), most);
                same("8: left of " + what, office.colourCount() * 10 + office.reportCount(),
                        (colours - most) * 10 + reports - most);
            }
        }
    }

    private static void palettesInEachMetric() {
        ColourOffice office = Offices.officeOf(c(0, 0, 0, 1), c(0, 6, 6, 1), c(9, 0, 0, 1));
        int[] errors = {9 + 12, 72 + 81, 6 + 9};
        for (int index = 0; index < 3; index++) {
            office.setMetric("msg".charAt(index));
            same("36: one of three", office.paletteError(1), errors[index]);
            same("37: one of three", office.paletteErrorBySearch(1), errors[index]);
            same("38: one of three", office.paletteColour(1, 0), 0);
        }
        office.setMetric('m');
        same("36: two of three", office.paletteError(2), 9);
        same("38: two of three in 'm'", office.paletteColour(2, 0) * 10 + office.paletteColour(2, 1), 1);
        office.setMetric('g');
        same("36: two of three", office.paletteError(2), 6);
        same("38: two of three in 'g'", office.paletteColour(2, 0) * 10 + office.paletteColour(2, 1), 2);
    }

    private static void fullPalettes() {
        ColourOffice office = new ColourOffice();
        for (int number = 0; number < 10; number++) {
            office.addColour(number, number, number, 1);
        }
        office.discard(0);
        office.addColour(0, 0, 0, 1);
        // In a row of ten at distances of 3: by size, the error and the colours, of which 10 is now at the dark end.
        int[] errors = {75, 36, 24, 18, 15, 12, 9, 6, 3, 0};
        for (int size = 1; size <= 10; size++) {
            same("36: size " + size, office.paletteError(size), errors[size - 1]);
            same("37: size " + size, office.paletteErrorBySearch(size), errors[size - 1]);
            for (int position = 1; position < size; position++) {
                same("38: in the order of ids", office.paletteColour(size, position - 1)
                        < office.paletteColour(size, position), true);
            }
        }
        same("38: the lower one of the two in the middle", office.paletteColour(1, 0), 4);
        same("38: all but the highest id", office.paletteColour(9, 0) * 10 + office.paletteColour(9, 8), 19);
        same("38: all, with the highest id last", office.paletteColour(10, 9), 10);
    }

    // ---- promises 39 to 46 ----

    private static void totalsAndChecks() {
        coinsBelowZero();
        meansAndShares();
        consistentOffices();
    }

    // "which can be negative"
    private static void coinsBelowZero() {
        ColourOffice office = Offices.officeOf(c(1, 1, 1, 1), c(2, 2, 2, 1), c(3, 3, 3, 1), c(4, 4, 4, 1));
        int[] due = {-1, -2, -1, 0};
        for (int turn = 0; turn < 4; turn++) {
            if (turn < 2) {
                office.discard(turn);
            } else {
                office.report(turn + 1, turn + 1, turn + 1, 0, 1);
                office.giveBack(turn - 2, turn);
            }
            same("41: coins", office.coins(), due[turn]);
            same("42: coins by accounts", office.coinsByAccounts(), due[turn]);
            same("43: returned", office.returnedTotal(), Math.max(turn - 1, 0));
        }
        refused("5: refused", ELEMENT, () -> office.discard(0));
        same("41: a refusal costs nothing", office.coins(), 0);
        office.undo();
        same("41: undone", office.coins() * 100 + office.coinsByAccounts() * 10 + office.returnedTotal(), -109);
    }

    private static void meansAndShares() {
        same("44: the least", ten(0, 0, 0, 1).meanBrightness(), 0.0);
        same("44: the greatest", ten(99, 99, 99, 1).meanBrightness(), 99.0);
        same("44: of one colour", Offices.officeOf(c(0, 0, 2, 1)).meanBrightness(), 2.0 / 3.0);
        same("45: none of ten", ten(50, 50, 49, 1).greyShare(), 0.0f);
        same("45: ten of ten", ten(50, 50, 50, 1).greyShare(), 1.0f);
        ColourOffice office = new ColourOffice();
        refused("44: no found colours", ARITHMETIC, () -> office.meanBrightness());
        refused("45: no found colours", ARITHMETIC, () -> office.greyShare());
        int sum = 0;
        for (int number = 0; number < 10; number++) {
            office.addColour(number < 7 ? 50 : 51, 50, 50, 1);
            sum += number < 7 ? 150 : 151;
            same("44: of " + (number + 1), office.meanBrightness(), (double) sum / (double) (3 * (number + 1)));
            same("45: of " + (number + 1), office.greyShare(), (float) Math.min(number + 1, 7) / (float) (number + 1));
        }
        for (int number = 0; number < 10; number++) {
            office.discard(number);
        }
        refused("44: no found colours any more", ARITHMETIC, () -> office.meanBrightness());
        refused("45: no found colours any more", ARITHMETIC, () -> office.greyShare());
    }

    private static void consistentOffices() {
        ColourOffice office = new ColourOffice();
        for (int count = 0; count <= 10; count++) {
            for (char metric : "msg".toCharArray()) {
                office.setMetric(metric);
                same("46: " + count + " colours in " + metric, office.isConsistent(), true);
            }
            if (count < 10) {
                office.addColour(count * 37 % 100, count * 61 % 100, count * 83 % 100, 1);
            }
            if (count < 6) {
                office.report(count * 41 % 100, count * 59 % 100, 50, 60, 7);
            }
        }
    }

    // ---- promises 47 to 57 ----

    private static void outputAndScripts() {
        textsOfColours();
        textsOfReports();
        outputOfEachText();
        undoNothingAndEight();
        snapshots();
    }

    private static void textsOfColours() {
        ColourOffice office = Offices.officeOf(c(0, 0, 0, 1), c(99, 99, 99, 9), c(9, 10, 1, 5), c(50, 50, 50, 3));
        String[] due = {"0#0/0/0f1d0", "1#99/99/99f9d0", "2#9/10/1f5d0", "3#50/50/50f3d0g"};
        describes("47", office::renderColour, office, due);
        for (int turn = 0; turn < 11; turn++) {
            office.passDays(99);
        }
        describes("47", office::renderColour, office, "0#50/50/50f1d1089g", "1#50/50/50f9d1089g", "2#50/50/50f5d1089g");
        for (int number = 4; number < 100; number++) {
            office.discard(office.addColour(1, 2, 3, 4));
        }
        office.addColour(3, 2, 1, 9);
        same("47: an id of three digits", office.renderColour(100), 13);
        same("47: an id of three digits", Offices.text(office), "100#3/2/1f9d0");
    }

    private static void textsOfReports() {
        ColourOffice office = new ColourOffice();
        office.report(0, 0, 0, 0, 1);
        office.report(99, 99, 99, 9999, 99);
        office.report(9, 10, 1, 10, 10);
        office.report(50, 50, 50, 999, 9);
        String[] due = {"0?0/0/0~0+1", "1?99/99/99~9999+99", "2?9/10/1~10+10", "3?50/50/50~999+9"};
        describes("48", office::renderReport, office, due);
        for (int number = 4; number < 10; number++) {
            office.withdraw(office.report(1, 2, 3, 4, 5));
        }
        office.report(1, 2, 3, 4, 5);
        same("48: an id of two digits", office.renderReport(10), 12);
        same("48: an id of two digits", Offices.text(office), "10?1/2/3~4+5");
    }

    private static void describes(String promise, Function<Integer, Integer> render, ColourOffice office,
            String... due) {
        for (int id = 0; id < due.length; id++) {
            same(promise + ": the length of " + due[id], render.apply(id), due[id].length());
            same(promise + ": the text", Offices.text(office), due[id]);
        }
    }

    private static void outputOfEachText() {
        ColourOffice office = new ColourOffice();
        refused("49: empty initially", INDEX, () -> office.outputAt(0));
        office.addColour(50, 50, 50, 1);
        office.report(1, 2, 3, 4, 5);
        refused("49: empty until something is rendered", INDEX, () -> office.outputAt(0));
        int longer = office.renderColour(0);
        same("49: the first", office.outputAt(0), '0');
        same("49: the last", office.outputAt(longer - 1), 'g');
        refused("49: behind the last", INDEX, () -> office.outputAt(longer));
        refused("49: before the first", INDEX, () -> office.outputAt(-1));
        int shorter = office.renderReport(0);
        same("49: a shorter text", shorter < longer, true);
        same("49: the last of a shorter text", office.outputAt(shorter - 1), '5');
        refused("49: behind a shorter text", INDEX, () -> office.outputAt(shorter));
        refused("49: where a longer text was", INDEX, () -> office.outputAt(longer - 1));
        refused("47: refused", ELEMENT, () -> office.renderColour(1));
        refused("48: refused", ELEMENT, () -> office.renderReport(1));
        same("49: a refusal replaces nothing", Offices.text(office), "0?1/2/3~4+5");
        office.withdraw(0);
        same("49: the text stays without the report", Offices.text(office), "0?1/2/3~4+5");
    }

    private static void undoNothingAndEight() {
        ColourOffice office = new ColourOffice();
        refused("55: a new office", ELEMENT, () -> office.undo());
        office.passDays(1);
        same("55: the only change", office.undo(), 0);
        refused("55: it has been undone", ELEMENT, () -> office.undo());
        for (int change = 0; change < 8; change++) {
            office.passDays(1);
        }
        same("55: the first of eight", office.undo(), 7);
        office.passDays(50);
        same("55: a change in place of the one undone", office.undo(), 7);
        same("55: it alone", office.day(), 7);
        for (int left = 6; left >= 0; left--) {
            same("55: the others", office.undo(), left);
        }
        refused("55: no ninth", ELEMENT, () -> office.undo());
        same("55: all undone", Whole.now(office), "0m 0 0 0");
        ColourOffice full = Offices.full();
        same("55: eight of many", full.undo(), 7);
        for (int left = 6; left >= 0; left--) {
            same("55: eight of many", full.undo(), left);
        }
        refused("55: and no more", ELEMENT, () -> full.undo());
        same("55: what stays of a full office", full.colourCount() * 10 + full.reportCount(), 90);
    }

    private static void snapshots() {
        ColourOffice office = new ColourOffice();
        refused("57: no snapshot", STATE, () -> office.restore());
        same("56: of an empty office", office.save(), 0);
        for (int number = 1; number <= 10; number++) {
            office.addColour(number, number, number, 1);
            same("56: of " + number, office.save(), number);
        }
        office.passDays(1);
        for (int time = 0; time < 3; time++) {
            same("57: the latest snapshot, which is kept", office.restore(), 10);
            same("57: all of it", Whole.now(office), "0m 0 0 0 c0:1/1/1f1d0 c1:2/2/2f1d0 c2:3/3/3f1d0 c3:4/4/4f1d0"
                    + " c4:5/5/5f1d0 c5:6/6/6f1d0 c6:7/7/7f1d0 c7:8/8/8f1d0 c8:9/9/9f1d0 c9:10/10/10f1d0");
            refused("57: nothing to undo", ELEMENT, () -> office.undo());
            office.settle();
            office.mix(0, 1);
            office.passDays(9);
        }
        same("55: changes behind a restore", office.undo() + office.undo(), 2 + 1);
        ColourOffice unchanged = Offices.officeOf(c(1, 1, 1, 1));
        unchanged.save();
        same("56: it is no change, and forgets none", unchanged.undo(), 0);
        same("57: of what has been undone", unchanged.restore(), 1);
        refused("57: a snapshot of the same state, and nothing to undo", ELEMENT, () -> unchanged.undo());
        ColourOffice emptied = new ColourOffice();
        emptied.save();
        emptied.addColour(1, 1, 1, 1);
        emptied.report(1, 1, 1, 1, 1);
        emptied.setMetric('s');
        emptied.settle();
        same("57: an empty office", emptied.restore(), 0);
        same("57: an empty office", Whole.now(emptied), "0m 0 0 0");
        same("57: and its ids", Whole.next(emptied), "0 0");
    }
}
