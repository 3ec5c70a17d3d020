import java.util.NoSuchElementException;

/** A test for each sentence of the document's terms that names a boundary case, in their order. */
public final class TermsTest {
    private static final Class<IllegalArgumentException> ARGUMENT = IllegalArgumentException.class;
    private static final Class<IllegalStateException> STATE = IllegalStateException.class;
    private static final Class<NoSuchElementException> ELEMENT = NoSuchElementException.class;
    private static final Class<UnsupportedOperationException> UNSUPPORTED = UnsupportedOperationException.class;

    private static final Checks CHECKS = new Checks();

    private TermsTest() {
    }

    public static void main(String[] args) {
        useOfOneObject();
        colours();
        distances();
        days();
        reports();
        settlements();
        palettes();
        changes();
        exceptions();
        CHECKS.end("TermsTest");
    }

    private static void same(String what, Object got, Object due) {
        CHECKS.same(what, got, due);
    }

    private static void refused(String what, Class<? extends RuntimeException> kind, Runnable call) {
        CHECKS.refused(what, kind, call);
    }

    private static int[] c(int red, int green, int blue, int fastness) {
        return Offices.c(red, green, blue, fastness);
    }

    // ---- "An object is used for at most 512 calls after it has been made" ----

    private static void useOfOneObject() {
        ColourOffice busy = new ColourOffice();
        for (int pair = 0; pair < 255; pair++) {
            same("512 calls: id", busy.addColour(1, 2, 3, 4), pair);
            same("512 calls: discarded", busy.discard(pair), 0);
        }
        same("512 calls: the coins", busy.coins(), -255);
        same("512 calls: the coins by accounts", busy.coinsByAccounts(), -255);
        ColourOffice old = Offices.officeOf(c(0, 99, 50, 9));
        for (int call = 0; call < 509; call++) {
            old.passDays(99);
        }
        same("512 calls: the days", old.day(), 509 * 99);
        same("512 calls: the age", old.age(0), 509 * 99);
        ColourOffice typed = new ColourOffice();
        for (int script = 0; script < 8; script++) {
            Offices.type(typed, Offices.LONGEST_SCRIPT);
            same("512 calls: a script", typed.runScript(), 14);
        }
        same("512 calls: the days of the scripts", typed.day(), 8 * 13);
        ColourOffice full = Offices.full();
        for (int call = 0; call < 300; call++) {
            same("512 calls: consistent", full.isConsistent(), true);
        }
    }

    // ---- "Colours." ----

    private static void colours() {
        partsFrom0To99();
        atMostTenColours();
        placesAreFreeAgain();
        theFirstIdIs0();
        eachFurtherIdIsOneMore();
        fastnessFrom1To9();
        greyIfAllPartsAre50();
    }

    // "A colour has three parts, red, green and blue, each from 0 to 99."
    private static void partsFrom0To99() {
        for (int least = 0; least < 8; least++) {
            int red = (least & 1) * 99;
            int green = (least >> 1 & 1) * 99;
            int blue = (least >> 2) * 99;
            ColourOffice office = new ColourOffice();
            office.addColour(red, green, blue, 1);
            same("parts 0 and 99: a found colour", office.red(0) + "/" + office.green(0) + "/" + office.blue(0),
                    red + "/" + green + "/" + blue);
            office.report(red, green, blue, 0, 1);
            same("parts 0 and 99: a report", office.distanceFor(0, 0), 0);
            same("parts 0 and 99: nearest", office.nearest(red, green, blue), 0);
            same("parts 0 and 99: nearest by looking", office.nearestByLooking(red, green, blue), 0);
        }
        for (int part : new int[] {-1, 100}) {
            ColourOffice office = Offices.officeOf(c(1, 1, 1, 1));
            refused("red " + part, ARGUMENT, () -> office.addColour(part, 1, 1, 1));
            refused("green " + part, ARGUMENT, () -> office.addColour(1, part, 1, 1));
            refused("blue " + part, ARGUMENT, () -> office.addColour(1, 1, part, 1));
            refused("red " + part + " of a report", ARGUMENT, () -> office.report(part, 1, 1, 1, 1));
            refused("green " + part + " of a report", ARGUMENT, () -> office.report(1, part, 1, 1, 1));
            refused("blue " + part + " of a report", ARGUMENT, () -> office.report(1, 1, part, 1, 1));
        }
    }

    // "At most 10 found colours are in the office at a time."
    private static void atMostTenColours() {
        ColourOffice office = new ColourOffice();
        for (int number = 0; number < 10; number++) {
            same("colour " + (number + 1), office.addColour(1, 1, 1, 1), number);
        }
        same("ten colours", office.colourCount(), 10);
        refused("an eleventh colour", STATE, () -> office.addColour(1, 1, 1, 1));
        same("ten colours still", office.colourCount(), 10);
    }

    private static void placesAreFreeAgain() {
        ColourOffice full = Offices.full();
        full.discard(10);
        same("in place of a discarded colour", full.addColour(1, 1, 1, 1), 11);
        refused("and no more", STATE, () -> full.addColour(1, 1, 1, 1));
        full.mix(3, 4);
        same("in place of a mixed colour", full.addColour(1, 1, 1, 1), 13);
        refused("and no more", STATE, () -> full.addColour(1, 1, 1, 1));
        full.withdraw(6);
        full.report(1, 1, 1, 9, 1);
        same("a returned colour", full.giveBack(7, 11), 1);
        same("in place of a returned colour", full.addColour(1, 1, 1, 1), 14);
        refused("and no more", STATE, () -> full.addColour(1, 1, 1, 1));
        full.report(1, 1, 1, 9, 1);
        same("one is settled", full.settle(), 1);
        same("in place of a settled colour", full.addColour(1, 1, 1, 1), 15);
        refused("and no more", STATE, () -> full.addColour(1, 1, 1, 1));
    }

    // "Each found colour gets an id; the first one has the id 0"
    private static void theFirstIdIs0() {
        same("the first id", new ColourOffice().addColour(9, 9, 9, 9), 0);
        ColourOffice office = new ColourOffice();
        office.report(9, 9, 9, 9, 9);
        refused("refused before it", ARGUMENT, () -> office.addColour(9, 9, 9, 0));
        same("the first id behind a report and a refusal", office.addColour(9, 9, 9, 9), 0);
        ColourOffice scripted = new ColourOffice();
        Offices.run(scripted, "find 9/9/9 9");
        same("the first id in a script", scripted.colourAt(0), 0);
    }

    // "and each further one has the id of the one before plus 1"
    private static void eachFurtherIdIsOneMore() {
        ColourOffice office = Offices.officeOf(c(1, 1, 1, 1), c(2, 2, 2, 2));
        office.discard(1);
        same("behind a discard of the latest", office.addColour(3, 3, 3, 3), 2);
        same("by mixing", office.mix(2, 0), 3);
        office.discard(3);
        same("behind a discard of all", office.addColour(4, 4, 4, 4), 4);
        office.report(4, 4, 4, 4, 4);
        office.giveBack(0, 4);
        same("behind a return of all", office.addColour(5, 5, 5, 5), 5);
        office.report(5, 5, 5, 5, 5);
        office.settle();
        Offices.run(office, "find 6/6/6 6");
        same("behind a settlement, by a script", office.colourAt(0), 6);
    }

    // "It has a fastness from 1 to 9."
    private static void fastnessFrom1To9() {
        ColourOffice office = new ColourOffice();
        for (int fastness = 1; fastness <= 9; fastness++) {
            same("fastness " + fastness, office.fastness(office.addColour(1, 1, 1, fastness)), fastness);
        }
        refused("fastness 0", ARGUMENT, () -> office.addColour(1, 1, 1, 0));
        refused("fastness 10", ARGUMENT, () -> office.addColour(1, 1, 1, 10));
    }

    // "A colour is grey if all of its parts are 50."
    private static void greyIfAllPartsAre50() {
        for (int red = 49; red <= 51; red++) {
            for (int green = 49; green <= 51; green++) {
                for (int blue = 49; blue <= 51; blue++) {
                    boolean grey = red == 50 && green == 50 && blue == 50;
                    ColourOffice office = Offices.officeOf(c(red, green, blue, 2));
                    String what = red + "/" + green + "/" + blue;
                    same("grey share of " + what, office.greyShare(), grey ? 1.0f : 0.0f);
                    same("days until grey of " + what, office.daysUntilGrey(0), grey ? 0 : 2);
                    office.renderColour(0);
                    same("text of " + what, Offices.text(office), "0#" + what + "f2d0" + (grey ? "g" : ""));
                    same("grey after a day without fading of " + what, office.passDays(1), grey ? 1 : 0);
                    same("grey after a day of fading of " + what, office.passDays(1), 1);
                }
            }
        }
    }

    // ---- "Distances." ----

    private static void distances() {
        initiallyMetricM();
        leastAndGreatestDistances();
        withoutTheirSigns();
        whatThePresentMetricTells();
        theLowestIdOfSeveral();
    }

    // "'m', initially"
    private static void initiallyMetricM() {
        ColourOffice office = Offices.officeOf(c(0, 0, 0, 1), c(1, 2, 4, 1));
        same("the metric of a new office", office.metric(), 'm');
        same("and what it tells", office.distance(0, 1), 7);
        same("and what is answered when it is set", office.setMetric('m'), 'm');
    }

    private static void leastAndGreatestDistances() {
        ColourOffice office = Offices.officeOf(c(0, 0, 0, 1), c(99, 99, 99, 1), c(0, 0, 1, 1), c(0, 0, 0, 9),
                c(99, 0, 99, 1), c(0, 99, 0, 1));
        int[] greatest = {297, 29403, 99};
        for (int index = 0; index < 3; index++) {
            char metric = "msg".charAt(index);
            office.setMetric(metric);
            same("of itself in " + metric, office.distance(1, 1), 0);
            same("of equal ones in " + metric, office.distance(0, 3), 0);
            same("next to each other in " + metric, office.distance(0, 2), 1);
            same("the greatest in " + metric, office.distance(0, 1), greatest[index]);
            same("the greatest of mixed signs in " + metric, office.distance(4, 5), greatest[index]);
        }
    }

    // "Differences are taken without their signs."
    private static void withoutTheirSigns() {
        int[] due = {6, 14, 3};
        for (int signs = 0; signs < 8; signs++) {
            int red = 50 + ((signs & 1) * 2 - 1);
            int green = 50 + ((signs >> 1 & 1) * 2 - 1) * 2;
            int blue = 50 + ((signs >> 2) * 2 - 1) * 3;
            ColourOffice office = Offices.officeOf(c(50, 50, 50, 1), c(red, green, blue, 1));
            office.report(red, green, blue, 0, 1);
            for (int index = 0; index < 3; index++) {
                office.setMetric("msg".charAt(index));
                String what = red + "/" + green + "/" + blue + " in " + office.metric();
                same(what, office.distance(0, 1), due[index]);
                same(what + ", the other way round", office.distance(1, 0), due[index]);
                same(what + ", for a report", office.distanceFor(0, 0), due[index]);
                same(what + ", the closest two", office.closestDistance(), due[index]);
                same(what + ", the closest two by sorting", office.closestDistanceBySorting(), due[index]);
            }
        }
    }

    // "The distance of two colours is what the present metric tells."
    private static void whatThePresentMetricTells() {
        ColourOffice office = Offices.officeOf(c(0, 0, 0, 1), c(3, 3, 3, 1), c(0, 8, 0, 1));
        office.report(0, 0, 0, 8, 5);
        int[] nearest = {2, 1, 1};
        int[] closest = {8, 27, 3};
        boolean[] fitting = {false, false, true};
        for (int turn = 0; turn < 6; turn++) {
            int index = turn % 3;
            office.setMetric("msg".charAt(index));
            same("closest", office.closestDistance(), closest[index]);
            same("fits", office.fits(0, 1), fitting[index]);
            ColourOffice other = Offices.officeOf(c(99, 99, 99, 1), c(3, 3, 3, 1), c(0, 8, 0, 1));
            other.setMetric(office.metric());
            same("nearest", other.nearest(0, 0, 0), nearest[index]);
        }
    }

    // "and the one with the lowest id of several such colours"
    private static void theLowestIdOfSeveral() {
        for (char metric : new char[] {'m', 's', 'g'}) {
            // All of them at the same distance from the middle, and once more in the other order.
            int[][] around = {{40, 50, 50}, {60, 50, 50}, {50, 40, 50}, {50, 60, 50}, {50, 50, 40}, {50, 50, 60}};
            for (int first = 0; first < 6; first++) {
                ColourOffice office = new ColourOffice();
                office.setMetric(metric);
                office.report(50, 50, 50, 9999, 9);
                for (int more = 0; more < 6; more++) {
                    int[] place = around[(first + more) % 6];
                    office.addColour(place[0], place[1], place[2], 1);
                }
                for (int gone = 0; gone < 6; gone++) {
                    same("tree in " + metric, office.nearest(50, 50, 50), gone);
                    same("looking in " + metric, office.nearestByLooking(50, 50, 50), gone);
                    same("for a report in " + metric, office.nearestFor(0), gone);
                    office.discard(gone);
                }
            }
        }
    }

    // ---- "Days." ----

    private static void days() {
        theDayCounterStartsAt0();
        theAgeStartsAt0();
        agesDivisibleByTheFastness();
        partsNextToGrey();
        manyDaysAreSingleDays();
    }

    // "The day counter starts at 0." and "the day counter increases by 1"
    private static void theDayCounterStartsAt0() {
        ColourOffice office = new ColourOffice();
        same("the first day", office.day(), 0);
        office.passDays(1);
        same("a day later", office.day(), 1);
        office.passDays(99);
        same("99 days later", office.day(), 100);
        Offices.run(office, "day;day 1;day 98");
        same("days of a script", office.day(), 200);
    }

    // "The age of a found colour is the number of days that have passed since it was added."
    private static void theAgeStartsAt0() {
        ColourOffice office = Offices.officeOf(c(1, 1, 1, 1));
        same("on day 0", office.age(0), 0);
        office.passDays(1);
        office.addColour(1, 1, 1, 1);
        same("a day old", office.age(0), 1);
        same("added on day 1", office.age(1), 0);
        office.passDays(99);
        same("a hundred days old", office.age(0), 100);
        same("added on day 1, on day 100", office.age(1), 99);
        same("mixed on day 100", office.age(office.mix(0, 1)), 0);
    }

    // "and then each found colour whose age is divisible by its fastness fades"
    private static void agesDivisibleByTheFastness() {
        for (int fastness = 1; fastness <= 9; fastness++) {
            for (int before = 0; before <= 9; before += 3) {
                ColourOffice office = new ColourOffice();
                if (before > 0) {
                    office.passDays(before);
                }
                office.addColour(0, 99, 50, fastness);
                for (int age = 1; age <= 30; age++) {
                    office.passDays(1);
                    int fades = age / fastness;
                    String what = "fastness " + fastness + ", added on day " + before + ", age " + age;
                    same(what + ": red", office.red(0), fades);
                    same(what + ": green", office.green(0), 99 - fades);
                    same(what + ": blue", office.blue(0), 50);
                }
            }
        }
    }

    // "each of its parts that is greater than 50 decreases by 1, and each one that is less than 50 increases by 1"
    private static void partsNextToGrey() {
        ColourOffice office = Offices.officeOf(c(49, 50, 51, 1), c(48, 51, 52, 1), c(0, 1, 99, 1), c(98, 50, 49, 1));
        same("grey after a day", office.passDays(1), 1);
        String[] due = {"0#50/50/50f1d1g", "1#49/50/51f1d1", "2#1/2/98f1d1", "3#97/50/50f1d1"};
        for (int colour = 0; colour < due.length; colour++) {
            office.renderColour(colour);
            same("faded", Offices.text(office), due[colour]);
        }
        same("grey after two days", office.passDays(1), 2);
        same("grey stays grey", office.red(0) + office.green(0) + office.blue(0), 150);
        same("grey after 48 days", office.passDays(46), 3);
        same("grey after 49 days", office.passDays(1), 3);
        same("grey after 50 days", office.passDays(1), 4);
        same("and for ever", office.passDays(99), 4);
    }

    private static void manyDaysAreSingleDays() {
        int[][] some = {c(0, 99, 50, 1), c(99, 0, 49, 2), c(51, 52, 53, 7), c(20, 70, 1, 9)};
        ColourOffice many = Offices.officeOf(some);
        ColourOffice single = Offices.officeOf(some);
        many.passDays(99);
        for (int day = 0; day < 99; day++) {
            single.passDays(1);
        }
        same("99 days at once", Whole.now(many), Whole.now(single));
    }

    // ---- "Reports." ----

    private static void reports() {
        atMostSixReports();
        idsOfReports();
        tolerancesAndRewards();
        notGreaterThanTheTolerance();
        bothAreNotInTheOffice();
    }

    // "At most 6 reports are open at a time."
    private static void atMostSixReports() {
        ColourOffice office = Offices.officeOf(c(1, 1, 1, 1), c(9, 9, 9, 1));
        for (int number = 0; number < 6; number++) {
            same("report " + (number + 1), office.report(number, 1, 1, 0, 1), number);
        }
        refused("a seventh report", STATE, () -> office.report(1, 1, 1, 1, 1));
        same("six reports still", office.reportCount(), 6);
        office.withdraw(5);
        same("in place of a withdrawn report", office.report(9, 9, 9, 0, 1), 6);
        refused("and no more", STATE, () -> office.report(1, 1, 1, 1, 1));
        office.giveBack(6, 1);
        same("in place of a report that got a colour", office.report(2, 2, 2, 2, 2), 7);
        refused("and no more", STATE, () -> office.report(1, 1, 1, 1, 1));
        same("one is settled", office.settle(), 1);
        same("in place of a settled report", office.report(2, 2, 2, 2, 2), 8);
        refused("and no more", STATE, () -> office.report(1, 1, 1, 1, 1));
    }

    // "Each report gets an id in the same way, counted on its own."
    private static void idsOfReports() {
        ColourOffice office = Offices.officeOf(c(1, 1, 1, 1), c(2, 2, 2, 1));
        same("the first id, behind two colours", office.report(1, 1, 1, 1, 1), 0);
        refused("refused", ARGUMENT, () -> office.report(1, 1, 1, 1, 0));
        same("the next id", office.report(1, 1, 1, 1, 1), 1);
        office.withdraw(1);
        office.withdraw(0);
        same("behind a withdrawal of all", office.report(1, 1, 1, 1, 1), 2);
        office.settle();
        same("behind a settlement", office.report(2, 2, 2, 1, 1), 3);
        same("colours on their own", office.addColour(3, 3, 3, 3), 2);
    }

    // "a tolerance from 0 to 9999 and a reward from 1 to 99 coins"
    private static void tolerancesAndRewards() {
        ColourOffice office = new ColourOffice();
        office.report(1, 1, 1, 0, 1);
        office.report(1, 1, 1, 9999, 99);
        same("tolerance 0", office.toleranceOf(0), 0);
        same("reward 1", office.rewardOf(0), 1);
        same("tolerance 9999", office.toleranceOf(1), 9999);
        same("reward 99", office.rewardOf(1), 99);
        refused("tolerance -1", ARGUMENT, () -> office.report(1, 1, 1, -1, 1));
        refused("tolerance 10000", ARGUMENT, () -> office.report(1, 1, 1, 10000, 1));
        refused("reward 0", ARGUMENT, () -> office.report(1, 1, 1, 1, 0));
        refused("reward 100", ARGUMENT, () -> office.report(1, 1, 1, 1, 100));
    }

    // "A found colour fits a report if its distance to the colour of the report is not greater than the tolerance."
    private static void notGreaterThanTheTolerance() {
        ColourOffice equal = Offices.officeOf(c(5, 5, 5, 1), c(5, 5, 6, 1));
        equal.report(5, 5, 5, 0, 1);
        same("0 of 0", equal.fits(0, 0), true);
        same("1 of 0", equal.fits(0, 1), false);
        ColourOffice far = Offices.officeOf(c(79, 51, 34, 1), c(80, 60, 0, 1), c(64, 63, 44, 1));
        far.setMetric('s');
        far.report(0, 0, 0, 9999, 1);
        far.report(0, 0, 0, 9998, 1);
        far.report(0, 0, 0, 9997, 1);
        same("distances next to the greatest tolerance",
                far.distanceFor(0, 0) + " " + far.distanceFor(0, 1) + " " + far.distanceFor(0, 2), "9998 10000 10001");
        same("9998 of 9999", far.fits(0, 0), true);
        same("9998 of 9998", far.fits(1, 0), true);
        same("9998 of 9997", far.fits(2, 0), false);
        same("10000 of 9999", far.fits(0, 1), false);
        same("10001 of 9999", far.fits(0, 2), false);
        same("it is settled by the same rule", far.settlementFor(0), 0);
        same("and no other one", far.bestReward(), 1);
        refused("10000 of 9999 is not returned", UNSUPPORTED, () -> {
            far.discard(0);
            far.giveBack(0, 1);
        });
    }

    // "both are not in the office any more, and the office gets the reward"
    private static void bothAreNotInTheOffice() {
        ColourOffice office = Offices.officeOf(c(5, 5, 5, 1));
        office.report(5, 5, 5, 0, 99);
        same("the greatest reward", office.giveBack(0, 0), 99);
        same("an empty office with coins", Whole.now(office), "0m 99 99 1");
        office.addColour(5, 5, 5, 1);
        office.report(5, 5, 5, 0, 1);
        same("the least reward", office.giveBack(1, 1), 1);
        same("an empty office with coins", Whole.now(office), "0m 100 100 2");
        refused("the colour is gone", ELEMENT, () -> office.discard(1));
        refused("the report is gone", ELEMENT, () -> office.withdraw(1));
    }

    // ---- "Settlements." ----

    private static void settlements() {
        noColourToTwoReports();
        oneCoinBeforeAllDistances();
        greatestSums();
        lowestIdsInTheOrderOfReports();
        noneIfItGetsNone();
    }

    // "A settlement gives some reports one found colour each, which fits, and no found colour to two reports."
    private static void noColourToTwoReports() {
        ColourOffice office = Offices.officeOf(c(5, 5, 5, 1));
        for (int number = 0; number < 6; number++) {
            office.report(5, 5, 5, 0, 1 + number);
        }
        same("one colour for six reports", office.bestReward(), 6);
        same("one colour for six reports, by trying", office.bestRewardByTrying(), 6);
        same("to the dearest report", office.settlementFor(5), 0);
        same("and to one alone", office.settle(), 1);
        same("the others stay", office.reportCount(), 5);
        ColourOffice many = new ColourOffice();
        for (int number = 0; number < 10; number++) {
            many.addColour(5, 5, 5, 1);
        }
        many.report(5, 5, 5, 0, 9);
        same("ten colours for one report", many.bestReward(), 9);
        same("ten colours for one report, by trying", many.bestRewardByTrying(), 9);
        same("the lowest one", many.settlementFor(0), 0);
        same("and one alone", many.settle(), 1);
        same("the others stay", many.colourCount(), 9);
    }

    // "The best settlement has the greatest sum of rewards, and of several such settlements the smallest sum .."
    private static void oneCoinBeforeAllDistances() {
        ColourOffice office = new ColourOffice();
        office.setMetric('s');
        for (int number = 0; number < 5; number++) {
            office.addColour(79, 51, 34, 1);
            office.report(0, 0, 0, 9999, 99);
        }
        office.report(79, 51, 34, 0, 98);
        same("a coin more, all distances worse", office.bestReward(), 495);
        same("a coin more, all distances worse, by trying", office.bestRewardByTrying(), 495);
        same("the greatest sum of five distances", office.bestDifference(), 5 * 9998);
        office.undo();
        office.report(79, 51, 34, 0, 99);
        same("as many coins", office.bestReward(), 495);
        same("the smallest distances", office.bestDifference(), 4 * 9998);
        refused("the last of the equal reports gets none", ELEMENT, () -> office.settlementFor(4));
        same("the exact one gets the one left", office.settlementFor(5), 4);
    }

    private static void greatestSums() {
        ColourOffice office = new ColourOffice();
        office.setMetric('s');
        for (int number = 0; number < 10; number++) {
            office.addColour(79, 51, 34, 1);
        }
        for (int number = 0; number < 6; number++) {
            office.report(0, 0, 0, 9999, 99);
        }
        same("six rewards of 99", office.bestReward(), 594);
        same("six rewards of 99, by trying", office.bestRewardByTrying(), 594);
        same("six distances of 9998", office.bestDifference(), 6 * 9998);
        same("six colours", office.settle(), 6);
        same("coins", office.coins(), 594);
        same("what stays", office.colourAt(0) + " " + office.colourCount() + " " + office.reportCount(), "6 4 0");
        same("nothing left to settle", office.bestReward() + office.bestRewardByTrying() + office.bestDifference(), 0);
        same("nothing left to settle", office.settle(), 0);
    }

    // "each one gets the fitting colour with the lowest id with which one of these best settlements is still possible"
    private static void lowestIdsInTheOrderOfReports() {
        ColourOffice office = new ColourOffice();
        office.setMetric('g');
        for (int number = 0; number < 10; number++) {
            office.addColour(number, 9, 0, 1);
        }
        for (int number = 0; number < 6; number++) {
            office.report(9 - number, 0, 0, 9, 9);
        }
        for (int number = 0; number < 6; number++) {
            same("all equal: report " + number, office.settlementFor(number), number);
        }
        office.withdraw(5);
        office.report(0, 9, 0, 0, 99);
        same("the only one for the last", office.settlementFor(6), 0);
        for (int number = 0; number < 5; number++) {
            same("the lowest one still possible: report " + number, office.settlementFor(number), number + 1);
        }
    }

    // "or none if it gets none in all of those that are left"
    private static void noneIfItGetsNone() {
        ColourOffice office = Offices.officeOf(c(5, 5, 5, 1), c(50, 50, 50, 1));
        office.report(5, 5, 7, 2, 10);
        office.report(5, 5, 3, 2, 10);
        office.report(50, 50, 50, 0, 1);
        same("the first of two equal ones", office.settlementFor(0), 0);
        refused("the second gets none", ELEMENT, () -> office.settlementFor(1));
        same("the third is not touched", office.settlementFor(2), 1);
        office.report(5, 5, 5, 2, 10);
        refused("a nearer one of a higher id", ELEMENT, () -> office.settlementFor(0));
        refused("a nearer one of a higher id", ELEMENT, () -> office.settlementFor(1));
        same("a nearer one of a higher id", office.settlementFor(3), 0);
    }

    // ---- "Palettes." ----

    private static void palettes() {
        palettesOfOneColour();
        palettesOfAll();
        errorsOfTheFarthest();
        lowestIdThatOnlyOneContains();
    }

    private static void palettesOfOneColour() {
        ColourOffice office = Offices.officeOf(c(0, 0, 0, 1));
        same("of one colour", office.paletteError(1), 0);
        same("of one colour, by search", office.paletteErrorBySearch(1), 0);
        same("of one colour", office.paletteColour(1, 0), 0);
        refused("size 0", ARGUMENT, () -> office.paletteError(0));
        refused("size 2 of one colour", ARGUMENT, () -> office.paletteError(2));
        refused("size 0, by search", ARGUMENT, () -> office.paletteErrorBySearch(0));
        refused("size 2 of one colour, by search", ARGUMENT, () -> office.paletteErrorBySearch(2));
        refused("size 0 and its colours", ARGUMENT, () -> office.paletteColour(0, 0));
        refused("size 2 of one colour and its colours", ARGUMENT, () -> office.paletteColour(2, 0));
        refused("position 1 of one colour", ELEMENT, () -> office.paletteColour(1, 1));
    }

    private static void palettesOfAll() {
        ColourOffice office = new ColourOffice();
        for (int number = 0; number < 10; number++) {
            office.addColour(number * 11, 0, 99 - number, 1);
            same("all of " + (number + 1), office.paletteError(number + 1), 0);
            same("all of " + (number + 1) + ", by search", office.paletteErrorBySearch(number + 1), 0);
            for (int position = 0; position <= number; position++) {
                same("all of " + (number + 1), office.paletteColour(number + 1, position), position);
            }
        }
        same("nine of ten", office.paletteError(9), 12);
        same("nine of ten, by search", office.paletteErrorBySearch(9), 12);
        refused("eleven of ten", ARGUMENT, () -> office.paletteError(11));
        refused("eleven of ten, by search", ARGUMENT, () -> office.paletteErrorBySearch(11));
        refused("eleven of ten and their colours", ARGUMENT, () -> office.paletteColour(11, 0));
    }

    // "Its error is the sum, over all found colours, of the distance to the nearest colour of the palette."
    private static void errorsOfTheFarthest() {
        ColourOffice office = new ColourOffice();
        office.setMetric('s');
        for (int number = 0; number < 10; number++) {
            int part = number % 2 * 99;
            office.addColour(part, part, part, 1);
        }
        same("five of the greatest distance", office.paletteError(1), 5 * 29403);
        same("five of the greatest distance, by search", office.paletteErrorBySearch(1), 5 * 29403);
        same("the lowest id", office.paletteColour(1, 0), 0);
        same("one of each", office.paletteError(2), 0);
        same("one of each, by search", office.paletteErrorBySearch(2), 0);
        same("one of each", office.paletteColour(2, 0) * 10 + office.paletteColour(2, 1), 1);
    }

    // "of several, it is the one that contains the colour with the lowest id of those that only one of both contains"
    private static void lowestIdThatOnlyOneContains() {
        ColourOffice equal = new ColourOffice();
        for (int number = 0; number < 10; number++) {
            equal.addColour(7, 7, 7, 1);
        }
        equal.discard(0);
        equal.discard(4);
        int[] left = {1, 2, 3, 5, 6, 7, 8, 9};
        for (int size = 1; size <= 8; size++) {
            for (int position = 0; position < size; position++) {
                same("equal colours, size " + size, equal.paletteColour(size, position), left[position]);
            }
        }
        // {0, 4} and {1, 2}, whose ids are less in sum.
        ColourOffice two = Offices.officeOf(c(6, 0, 0, 1), c(2, 2, 0, 1), c(6, 3, 0, 1), c(5, 6, 0, 1), c(4, 3, 0, 1));
        same("two of five", two.paletteError(2), 9);
        same("two of five, by search", two.paletteErrorBySearch(2), 9);
        same("two of five", two.paletteColour(2, 0) * 10 + two.paletteColour(2, 1), 4);
        // {0, 3, 4} and {1, 2, 3}, which both contain 3.
        ColourOffice three = Offices.officeOf(c(1, 1, 0, 1), c(0, 3, 0, 1), c(2, 0, 0, 1), c(6, 6, 0, 1),
                c(5, 0, 0, 1));
        same("three of five", three.paletteError(3), 5);
        same("three of five, by search", three.paletteErrorBySearch(3), 5);
        same("three of five", three.paletteColour(3, 0) * 100 + three.paletteColour(3, 1) * 10
                + three.paletteColour(3, 2), 34);
    }

    // ---- "Changes." ----

    private static void changes() {
        eachKindOfChange();
        changesOfTheSameState();
        whatIsNoChange();
        theLatestEight();
        ringOfChanges();
        changesBehindScripts();
        whatUndoLeaves();
        whatTheSnapshotLeaves();
        undoCoversAllElse();
    }

    // "A change is a call of addColour, report, .. or runScript that returns normally"
    private static void eachKindOfChange() {
        ColourOffice office = Offices.officeOf(c(5, 5, 5, 1), c(7, 7, 7, 2), c(40, 40, 40, 3), c(45, 45, 45, 3));
        office.report(5, 5, 5, 5, 5);
        office.report(7, 7, 7, 7, 7);
        office.save();
        Runnable[] kinds = {() -> office.addColour(1, 2, 3, 4), () -> office.report(1, 2, 3, 4, 5),
            () -> office.withdraw(0), () -> office.discard(1), () -> office.setMetric('s'),
            () -> office.giveBack(0, 0), () -> office.settle(), () -> office.mix(2, 3), () -> office.passDays(1),
            () -> Offices.run(office, "day;metric g;find 1/1/1 1")};
        String before = Whole.now(office);
        for (int kind = 0; kind < kinds.length; kind++) {
            office.restore();
            kinds[kind].run();
            same("kind " + kind + " changes the state", Whole.now(office).equals(before), false);
            same("kind " + kind + " is one change", office.undo(), 0);
            same("kind " + kind + " is undone", Whole.now(office), before);
            refused("kind " + kind + " is no more than one change", ELEMENT, () -> office.undo());
        }
    }

    // "even if the state is the same afterwards"
    private static void changesOfTheSameState() {
        ColourOffice office = new ColourOffice();
        office.setMetric('m');
        office.settle();
        Offices.run(office, "settle");
        Offices.run(office, "metric m;settle;metric m");
        same("the state is the same", Whole.now(office), "0m 0 0 0");
        for (int left = 3; left >= 0; left--) {
            same("four changes of nothing", office.undo(), left);
        }
        refused("and no more", ELEMENT, () -> office.undo());
    }

    // ".. that returns normally": neither what is refused nor what only tells, types, saves or renders.
    private static void whatIsNoChange() {
        ColourOffice office = new ColourOffice();
        refused("refused", ARGUMENT, () -> office.addColour(1, 1, 1, 0));
        refused("refused", ARGUMENT, () -> office.report(1, 1, 1, 1, 0));
        refused("refused", ELEMENT, () -> office.withdraw(0));
        refused("refused", ELEMENT, () -> office.discard(0));
        refused("refused", ARGUMENT, () -> office.setMetric('x'));
        refused("refused", ELEMENT, () -> office.giveBack(0, 0));
        refused("refused", ELEMENT, () -> office.mix(0, 0));
        refused("refused", ARGUMENT, () -> office.passDays(0));
        refused("refused", ARGUMENT, () -> Offices.run(office, "day;"));
        refused("refused", STATE, () -> Offices.run(office, "day;day;drop 0"));
        office.save();
        Offices.type(office, "day");
        office.bestReward();
        office.bestRewardByTrying();
        office.bestDifference();
        office.isConsistent();
        refused("no changes", ELEMENT, () -> office.undo());
    }

    // "The latest 8 changes can be undone, the latest one first."
    private static void theLatestEight() {
        for (int changes = 0; changes <= 20; changes++) {
            ColourOffice office = new ColourOffice();
            for (int change = 1; change <= changes; change++) {
                office.passDays(change);
            }
            int undone = Math.min(changes, 8);
            for (int left = undone - 1; left >= 0; left--) {
                same(changes + " changes: left", office.undo(), left);
                int kept = changes - undone + left;
                same(changes + " changes: the day", office.day(), kept * (kept + 1) / 2);
            }
            refused(changes + " changes: no more", ELEMENT, () -> office.undo());
        }
    }

    // Changes and undos in turns, so that the places of the eight are used round and round.
    private static void ringOfChanges() {
        ColourOffice office = new ColourOffice();
        int day = 0;
        int kept = 0;
        for (int turn = 1; turn <= 40; turn++) {
            for (int change = 0; change < 3; change++) {
                office.passDays(1);
            }
            day += 3;
            kept = Math.min(kept + 3, 8);
            int undos = turn % 4 == 0 ? kept : 2;
            for (int undo = 0; undo < undos; undo++) {
                kept--;
                day--;
                same("turn " + turn + ": left", office.undo(), kept);
                same("turn " + turn + ": the day", office.day(), day);
            }
        }
    }

    // A call behind a script is a change of its own again, whether the script has taken effect or not.
    private static void changesBehindScripts() {
        ColourOffice office = new ColourOffice();
        Offices.run(office, "day;day");
        office.passDays(5);
        same("behind a script", office.undo() * 100 + office.day(), 102);
        refused("a failed command", STATE, () -> Offices.run(office, "day;drop 0"));
        office.passDays(5);
        same("behind a failed script", office.undo() * 100 + office.day(), 102);
        refused("without the form", ARGUMENT, () -> Offices.run(office, "day;"));
        office.passDays(5);
        same("behind a script without the form", office.undo() * 100 + office.day(), 102);
        same("the script", office.undo() * 100 + office.day(), 0);
    }

    // "except the script buffer, the error position, the failed command and its kind of failure, the output text .."
    private static void whatUndoLeaves() {
        ColourOffice office = Offices.officeOf(c(1, 2, 3, 4));
        refused("a form error", ARGUMENT, () -> Offices.run(office, "day;"));
        refused("a failed command", STATE, () -> Offices.run(office, "day;day;drop 0"));
        office.renderColour(0);
        office.save();
        Offices.type(office, "metric s;da");
        same("undone", office.undo(), 0);
        same("no colours", office.colourCount(), 0);
        same("the text and the failures", Whole.failures(office), "0#1/2/3f4d0 4 2 e");
        same("the buffer", office.type('y'), 12);
        same("the buffer", office.runScript(), 2);
        same("the buffer", office.metric(), 's');
        same("the snapshot itself", office.restore(), 1);
    }

    private static void whatTheSnapshotLeaves() {
        ColourOffice office = Offices.officeOf(c(1, 2, 3, 4));
        office.save();
        refused("a form error", ARGUMENT, () -> Offices.run(office, "day;"));
        refused("a failed command", STATE, () -> Offices.run(office, "day;day;drop 0"));
        office.renderColour(0);
        Offices.type(office, "metric s;da");
        office.passDays(3);
        same("restored", office.restore(), 1);
        same("the text and the failures", Whole.failures(office), "0#1/2/3f4d0 4 2 e");
        same("the buffer", office.type('y'), 12);
        same("the buffer", office.runScript(), 2);
        same("from the saved day on", office.day(), 1);
        same("a script is undone alone", office.undo(), 0);
    }

    // "Undo and the snapshot cover everything, also the ids that are given next"
    private static void undoCoversAllElse() {
        for (int way = 0; way < 2; way++) {
            ColourOffice office = Offices.officeOf(c(1, 1, 1, 2), c(9, 9, 9, 9), c(50, 50, 50, 5));
            office.report(2, 2, 2, 0, 11);
            office.report(9, 9, 9, 9, 22);
            office.discard(2);
            office.passDays(2);
            String before = Whole.now(office);
            office.save();
            office.giveBack(0, 0);
            office.settle();
            office.setMetric('g');
            office.discard(office.addColour(4, 4, 4, 4));
            office.withdraw(office.report(4, 4, 4, 4, 4));
            same("an empty office", Whole.now(office), "2g 31 31 2");
            if (way == 0) {
                for (int undo = 0; undo < 7; undo++) {
                    office.undo();
                }
            } else {
                office.restore();
            }
            same("all as before", Whole.now(office), before);
            same("the ids that are given next", Whole.next(office), "3 2");
        }
    }

    // ---- "Exceptions." ----

    private static void exceptions() {
        theOneThatIsListedFirst();
    }

    // "If several exceptions apply, the one that is listed first is thrown."
    private static void theOneThatIsListedFirst() {
        ColourOffice full = Offices.full();
        refused("a wrong part, and ten colours", ARGUMENT, () -> full.addColour(100, 0, 0, 1));
        refused("a wrong fastness, and ten colours", ARGUMENT, () -> full.addColour(0, 0, 0, 0));
        refused("a wrong part, and six reports", ARGUMENT, () -> full.report(0, 0, -1, 0, 1));
        refused("a wrong tolerance, and six reports", ARGUMENT, () -> full.report(0, 0, 0, 10000, 1));
        refused("a wrong reward, and six reports", ARGUMENT, () -> full.report(0, 0, 0, 0, 100));
        refused("a wrong character, and a full buffer", ARGUMENT, () -> full.type((char) 127));
        refused("both the same, and none there", ELEMENT, () -> full.mix(0, 0));
        refused("both the same, and there", ARGUMENT, () -> full.mix(1, 1));
        refused("a wrong size, and no such position", ARGUMENT, () -> full.paletteColour(11, 11));
        refused("a right size, and no such position", ELEMENT, () -> full.paletteColour(10, 10));
        ColourOffice empty = new ColourOffice();
        refused("a wrong part, and no colours", ARGUMENT, () -> empty.nearest(0, 100, 0));
        refused("a wrong part, and no colours, by looking", ARGUMENT, () -> empty.nearestByLooking(0, 100, 0));
        refused("a right part, and no colours", ELEMENT, () -> empty.nearest(0, 99, 0));
        refused("no colours, so no size", ARGUMENT, () -> empty.paletteColour(1, 0));
        refused("a script without the form whose commands fail", ARGUMENT, () -> Offices.run(empty, "drop 0;"));
        same("its failed command is not told", Whole.failures(empty),
                " 7 throws NoSuchElementException throws NoSuchElementException");
        ColourOffice near = Offices.officeOf(c(1, 1, 1, 1), c(2, 2, 2, 1));
        near.report(1, 1, 1, 0, 1);
        refused("no such report, and not the nearest one", ELEMENT, () -> near.giveBack(1, 1));
        refused("no such colour, and not the nearest one", ELEMENT, () -> near.giveBack(0, 2));
        refused("not the nearest one", UNSUPPORTED, () -> near.giveBack(0, 1));
    }
}
