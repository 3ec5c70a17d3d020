import java.util.NoSuchElementException;
import java.util.function.Consumer;

/** A test for each boundary of the form of scripts, of what they do, and of the buffer that they are typed into. */
public final class ScriptTest {
    private static final Class<IllegalArgumentException> ARGUMENT = IllegalArgumentException.class;
    private static final Class<IllegalStateException> STATE = IllegalStateException.class;
    private static final Class<NoSuchElementException> ELEMENT = NoSuchElementException.class;

    // Each command with its numbers as N, and each metric.
    private static final String[] FORMS = {"find N/N/N N", "report N/N/N N N", "drop N", "discard N", "metric m",
        "metric s", "metric g", "return N N", "settle", "mix N N", "day", "day N"};

    private static final Checks CHECKS = new Checks();

    private ScriptTest() {
    }

    public static void main(String[] args) {
        theBuffer();
        theForm();
        execution();
        failures();
        CHECKS.end("ScriptTest");
    }

    private static void same(String what, Object got, Object due) {
        CHECKS.same(what, got, due);
    }

    private static void refused(String what, Class<? extends RuntimeException> kind, Runnable call) {
        CHECKS.refused(what, kind, call);
    }

    /** A script has the form if it is not refused as one that has not, whether its commands fail or not. */
    private static void formed(String script, int commands) {
        ColourOffice office = new ColourOffice();
        Offices.type(office, script);
        String answer = Whole.answer(office::runScript);
        boolean well = answer.equals("" + commands) || answer.equals("throws IllegalStateException");
        same("has the form: '" + script + "'", well, true);
        refused("no error position: '" + script + "'", ELEMENT, office::errorPosition);
    }

    private static void formless(String script, int position) {
        ColourOffice office = new ColourOffice();
        String before = Whole.now(office);
        refused("has not the form: '" + script + "'", ARGUMENT, () -> Offices.run(office, script));
        same("error position of '" + script + "'", office.errorPosition(), position);
        same("nothing is executed of '" + script + "'", Whole.now(office), before);
    }

    // ---- "A script is typed into a buffer of at most 60 characters and then run." ----

    private static void theBuffer() {
        charactersFrom32To126();
        sixtyCharacters();
        emptyAfterwards();
    }

    private static void charactersFrom32To126() {
        for (int code = 0; code < 300; code++) {
            char sign = (char) code;
            ColourOffice office = new ColourOffice();
            if (code >= 32 && code <= 126) {
                same("code " + code, office.type(sign), 1);
            } else {
                refused("code " + code, ARGUMENT, () -> office.type(sign));
                same("code " + code + " is not typed", office.type('d'), 1);
            }
        }
    }

    private static void sixtyCharacters() {
        ColourOffice office = new ColourOffice();
        for (int length = 1; length <= 60; length++) {
            same("length", office.type(Offices.LONGEST_SCRIPT.charAt(length - 1)), length);
        }
        refused("a sixty-first character", STATE, () -> office.type(';'));
        refused("a wrong sixty-first character", ARGUMENT, () -> office.type((char) 127));
        same("all sixty are run, and no more", office.runScript(), 14);
        same("the first thirteen", office.day(), 13);
        same("the last", office.metric(), 'g');
    }

    // "The buffer is empty afterwards, also if an exception is thrown."
    private static void emptyAfterwards() {
        ColourOffice office = new ColourOffice();
        Offices.run(office, "day");
        same("behind a script", office.type('x'), 1);
        refused("without the form", ARGUMENT, office::runScript);
        same("behind one without the form", office.type('d'), 1);
        refused("a failing script", STATE, () -> Offices.run(office, "rop 0"));
        same("behind one with a failed command", office.type('d'), 1);
        Offices.type(office, "ay");
        same("a script again", office.runScript(), 1);
        refused("nothing typed", ARGUMENT, office::runScript);
        same("behind nothing", office.type('x'), 1);
        ColourOffice full = Offices.full();
        full.runScript();
        same("behind a full buffer", full.type('x'), 1);
    }

    // ---- the form ----

    private static void theForm() {
        formless("", 0);
        oneToFourDigits();
        everyPrefixOfACommand();
        endsInAFullBuffer();
        whatIsLeftOfAnEarlierScript();
        everyOtherSign();
        whatFollowsACommand();
        repetitions();
        metrics();
        days();
        theFirstWrongCharacterCounts();
    }

    // "number = digit [ digit [ digit [ digit ] ] ]", at each place of a number
    private static void oneToFourDigits() {
        for (String form : FORMS) {
            for (int at = form.indexOf('N'); at >= 0; at = form.indexOf('N', at + 1)) {
                String head = form.substring(0, at).replace('N', '7');
                String tail = form.substring(at + 1).replace('N', '7');
                for (String number : new String[] {"0", "9", "00", "99", "000", "999", "0000", "9999"}) {
                    formed(head + number + tail, 1);
                }
                formless(head + tail, at);
                formless(head + "00000" + tail, at + 4);
                formless(head + "12345" + tail, at + 4);
                formless(head + "-1" + tail, at);
                formless(head + "+1" + tail, at);
                formless(head + "x" + tail, at);
                formless(head + "1x" + tail, at + 1);
                formless(head + "1 x" + tail, endOfNumber(head + "1", tail));
            }
        }
    }

    /** Where " x" is wrong behind a number: at the space, or behind it if a number may follow. */
    private static int endOfNumber(String head, String tail) {
        return head.length() + (tail.startsWith(" ") ? 1 : 0);
    }

    // "or the length of the script if every character can and the end comes too early"
    private static void everyPrefixOfACommand() {
        for (String form : FORMS) {
            String command = form.replace('N', '7');
            for (int length = 0; length < command.length(); length++) {
                String prefix = command.substring(0, length);
                if (prefix.equals("day")) {
                    continue;
                }
                formless(prefix, length);
                formless("day;" + prefix, 4 + length);
                formless("settle;drop 0;" + prefix, 14 + length);
            }
            formed(command, 1);
            formed("day;" + command, 2);
            formed("settle;drop 0;" + command, 3);
        }
    }

    // The same with the end of the script at the end of the buffer.
    private static void endsInAFullBuffer() {
        for (String form : FORMS) {
            String command = form.replace('N', '7');
            for (int length = 1; length <= command.length(); length++) {
                String script = filled(60 - length) + command.substring(0, length);
                if (length < command.length() && !command.substring(0, length).equals("day")) {
                    formless(script, 60);
                } else {
                    formed(script, script.split(";").length);
                }
            }
        }
    }

    /** Commands with a separator behind each, of so many characters in all. */
    private static String filled(int length) {
        String rest = new String[] {"", "day 1;day 22;", "day 1;", "day 22;"}[length % 4];
        return "day;".repeat((length - rest.length()) / 4) + rest;
    }

    // What stands in the buffer behind the end is no part of the script.
    private static void whatIsLeftOfAnEarlierScript() {
        for (String form : FORMS) {
            String command = form.replace('N', '7');
            for (int length = 0; length < command.length(); length++) {
                ColourOffice office = new ColourOffice();
                String prefix = command.substring(0, length);
                Whole.answer(() -> Offices.run(office, command));
                if (!prefix.equals("day")) {
                    refused("'" + prefix + "' behind a whole one", ARGUMENT, () -> Offices.run(office, prefix));
                    same("'" + prefix + "' behind a whole one", office.errorPosition(), length);
                }
            }
        }
    }

    // "the index of the first character that cannot continue any script of this form"
    private static void everyOtherSign() {
        for (String form : FORMS) {
            String command = form.replace('N', '7');
            for (int at = 0; at < command.length(); at++) {
                for (char sign = 32; sign <= 126; sign++) {
                    if (!canStand(command.substring(0, at), sign)) {
                        String script = command.substring(0, at) + sign + command.substring(at + 1);
                        formless(script, at);
                        formless("mix 1 2;" + script, 8 + at);
                    }
                }
            }
        }
    }

    /** Tells whether the sign continues what stands before it to the beginning of any command, or ends a command. */
    private static boolean canStand(String before, char sign) {
        for (String form : FORMS) {
            boolean continues = form.startsWith((before + sign).replaceAll("[0-9]+", "N"));
            boolean ends = sign == ';' && form.equals(before.replaceAll("[0-9]+", "N"));
            if (continues || ends) {
                return true;
            }
        }
        return false;
    }

    private static void whatFollowsACommand() {
        for (String form : FORMS) {
            String command = form.replace('N', '1');
            for (String more : new String[] {" ;day", ",day", ":day", "/1", "x", "  "}) {
                if (!(form.equals("day") && more.startsWith(" "))) {
                    formless(command + more, command.length());
                }
            }
            formless(command + ";", command.length() + 1);
            formless(command + "; day", command.length() + 1);
            formless(command + ";;day", command.length() + 1);
            formed(command + ";day", 2);
        }
        formless(";", 0);
        formless(";day", 0);
        formless(" day", 0);
    }

    // "braces mean zero or more repetitions": as many as the buffer takes
    private static void repetitions() {
        StringBuilder script = new StringBuilder("day");
        for (int commands = 1; commands <= 15; commands++) {
            ColourOffice office = new ColourOffice();
            same(commands + " commands", Offices.run(office, script.toString()), commands);
            same(commands + " commands", office.day(), commands);
            if (script.length() < 60) {
                formless(script + ";", script.length() + 1);
            }
            script.append(";day");
        }
        formless("day;".repeat(14) + "dayx", 59);
        formless("day;".repeat(14) + "dax;", 58);
        formless("day;".repeat(14) + "day;", 60);
        formless("day;".repeat(13) + "discard ", 60);
        formed("day;".repeat(13) + "day 1234", 14);
        formless("day;".repeat(13) + "day 123;", 60);
    }

    private static void metrics() {
        formed("metric m;metric s;metric g", 3);
        for (String wrong : new String[] {"M", "S", "G", "a", "1", ";", " m", "/"}) {
            formless("metric " + wrong, 7);
        }
        formless("metric mm", 8);
        formless("metric m ", 8);
        formless("metricm", 6);
    }

    // "day" [ " " number ]
    private static void days() {
        formed("day", 1);
        formed("day 0", 1);
        formless("day ", 4);
        formless("day  ", 4);
        formless("day  1", 4);
        formless("day ;day", 4);
        formless("day1", 3);
        formless("days", 3);
        formless("day 1 1", 5);
        formless("day 00001", 8);
    }

    private static void theFirstWrongCharacterCounts() {
        formless("x", 0);
        formless("dax;x", 2);
        formless("day;x;y", 4);
        formless("d day", 1);
        formless("dr;", 2);
        formless("di;", 2);
        formless("re;", 2);
        formless("rep 1", 3);
        formless("ret 1", 3);
        formless("me", 2);
        formless("mi", 2);
        formless("m", 1);
        formless("ma", 1);
        formless("DAY", 0);
        formless("Day", 0);
        formless("find 1/2/3/4 5", 10);
        formless("find 1 2 3 4", 6);
        formless("report 1/2/3 4", 14);
        formless("~".repeat(60), 0);
    }

    // ---- what scripts do ----

    private static void execution() {
        eachCommandStandsForItsCall();
        leastAndGreatestNumbers();
        inOrder();
        asOneChange();
    }

    // "The commands stand for addColour .. passDays, with the arguments in the same order"
    private static void eachCommandStandsForItsCall() {
        compare("find 1/2/3 4", office -> office.addColour(1, 2, 3, 4));
        compare("report 1/2/3 4 5", office -> office.report(1, 2, 3, 4, 5));
        compare("drop 1", office -> office.withdraw(1));
        compare("discard 2", office -> office.discard(2));
        compare("metric m", office -> office.setMetric('m'));
        compare("metric s", office -> office.setMetric('s'));
        compare("metric g", office -> office.setMetric('g'));
        compare("return 1 2", office -> office.giveBack(1, 2));
        compare("settle", ColourOffice::settle);
        compare("mix 2 0", office -> office.mix(2, 0));
        compare("mix 0 2", office -> office.mix(0, 2));
        compare("day", office -> office.passDays(1));
        compare("day 1", office -> office.passDays(1));
        compare("day 02", office -> office.passDays(2));
        compare("day 0099", office -> office.passDays(99));
    }

    private static void compare(String script, Consumer<ColourOffice> call) {
        ColourOffice byScript = three();
        ColourOffice byCall = three();
        same("commands of " + script, Offices.run(byScript, script), 1);
        call.accept(byCall);
        same("state behind " + script, Whole.now(byScript), Whole.now(byCall));
        same("undo behind " + script, byScript.undo(), byCall.undo());
        same("state behind the undo of " + script, Whole.now(byScript), Whole.now(three()));
        Offices.run(byScript, script);
        call.accept(byCall);
        same("the ids given next behind " + script, Whole.next(byScript), Whole.next(byCall));
    }

    private static ColourOffice three() {
        ColourOffice office = Offices.officeOf(Offices.c(10, 20, 30, 3), Offices.c(40, 50, 60, 2),
                Offices.c(71, 81, 91, 1));
        office.setMetric('g');
        office.report(10, 20, 31, 1, 11);
        office.report(71, 80, 91, 5, 22);
        return office;
    }

    private static void leastAndGreatestNumbers() {
        ColourOffice office = new ColourOffice();
        same("the greatest", Offices.run(office, "find 99/99/99 9;report 99/99/99 9999 99;day 99"), 3);
        same("the least", Offices.run(office, "find 0/0/0 1;report 0/0/0 0 1;day 1"), 3);
        same("with zeros before them", Offices.run(office, "find 0000/0001/0099 0009;report 00/01/099 0007 0099"), 2);
        same("what stands", Whole.now(office), "100m 0 0 0 c0:88/88/88f9d100 c1:1/1/1f1d1 c2:0/1/99f9d0"
                + " r0?99/99/99~9999+99 r1?0/0/0~0+1 r2?0/1/99~7+99");
        String[] beyond = {"find 100/0/0 1", "find 0/100/0 1", "find 0/0/100 1", "find 0/0/0 10", "find 0/0/0 0",
            "find 9999/0/0 1", "report 100/0/0 0 1", "report 0/100/0 0 1", "report 0/0/100 0 1", "report 0/0/0 0 0",
            "report 0/0/0 0 100", "report 0/0/0 9999 9999", "day 0", "day 100", "day 9999"};
        for (String script : beyond) {
            refused(script, STATE, () -> Offices.run(office, script));
            same(script + " fails", office.failureKind(), 'a');
        }
    }

    // "The commands are executed in order"
    private static void inOrder() {
        ColourOffice office = new ColourOffice();
        Offices.run(office, "find 9/9/9 1;find 8/8/8 1;mix 0 1;report 8/8/8 9 9");
        Offices.run(office, "day;return 0 2");
        same("each upon the one before", Whole.now(office), "1m 9 9 1");
        Offices.run(office, "find 9/9/9 1;day;report 9/9/9 0 5;settle;discard 3");
        same("nothing to settle a day later", Whole.now(office), "2m 8 8 1 r1?9/9/9~0+5");
        Offices.run(office, "metric g;metric s;metric g;metric m;metric s");
        same("the last one counts", office.metric(), 's');
    }

    // "either all of them take effect or none": as one change
    private static void asOneChange() {
        ColourOffice office = new ColourOffice();
        Offices.run(office, Offices.LONGEST_SCRIPT);
        same("fourteen commands are one change", office.undo(), 0);
        same("and all undone", Whole.now(office), "0m 0 0 0");
        for (int script = 0; script < 9; script++) {
            Offices.run(office, "day;day");
        }
        for (int left = 7; left >= 0; left--) {
            same("eight scripts", office.undo(), left);
        }
        same("the first stays", office.day(), 2);
    }

    // ---- scripts that fail ----

    private static void failures() {
        ColourOffice empty = new ColourOffice();
        failing(empty, "drop 0", 0, 'e');
        failing(empty, "discard 0", 0, 'e');
        failing(empty, "return 0 0", 0, 'e');
        failing(empty, "mix 0 0", 0, 'e');
        failing(empty, "mix 0 1", 0, 'e');
        ColourOffice used = Offices.used();
        Whole.answer(used::runScript);
        failing(used, "mix 0 0", 0, 'a');
        failing(used, "return 0 2", 0, 'u');
        failing(used, "return 2 0", 0, 'e');
        failing(used, "return 0 9999", 0, 'e');
        failing(used, "find 1/1/1 1;mix 4 0;mix 4 0", 2, 'e');
        ColourOffice full = Offices.full();
        full.runScript();
        failing(full, "find 1/1/1 1", 0, 's');
        failing(full, "report 1/1/1 1 1", 0, 's');
        failing(full, "find 100/1/1 1", 0, 'a');
        failing(full, "discard 1;find 1/1/1 1;find 1/1/1 1", 2, 's');
        failing(full, "drop 1;report 1/1/1 1 1;report 1/1/1 1 1", 2, 's');
        theFirstAndTheLastCommand();
        failuresOnlyOfFailedScripts();
    }

    private static void failing(ColourOffice office, String script, int command, char kind) {
        String before = Whole.now(office);
        refused(script, STATE, () -> Offices.run(office, script));
        same("failed command of " + script, office.failedCommand(), command);
        same("failure of " + script, office.failureKind(), kind);
        same("no command takes effect of " + script, Whole.now(office), before);
    }

    private static void theFirstAndTheLastCommand() {
        ColourOffice office = new ColourOffice();
        for (int before = 0; before <= 13; before++) {
            failing(office, "day;".repeat(before) + "day 0", before, 'a');
            String behind = ";day".repeat(13 - before);
            failing(office, "day;".repeat(before) + "day 0" + behind, before, 'a');
        }
        failing(office, "drop 0;day 0", 0, 'e');
        failing(office, "day 0;drop 0", 0, 'a');
        same("the ids of failed scripts are given again", Whole.next(office), "0 0");
    }

    // "of the latest script with a failed command", and "of the latest script that did not have the required form"
    private static void failuresOnlyOfFailedScripts() {
        ColourOffice office = new ColourOffice();
        refused("a form error", ARGUMENT, () -> Offices.run(office, "day;day;x"));
        same("no failed command by it", Whole.failures(office),
                " 8 throws NoSuchElementException throws NoSuchElementException");
        refused("a failed command", STATE, () -> Offices.run(office, "day;drop 0"));
        same("it leaves the form error", Whole.failures(office), " 8 1 e");
        refused("a later form error", ARGUMENT, () -> Offices.run(office, "drop 0;"));
        same("it leaves the failed command", Whole.failures(office), " 7 1 e");
        refused("a later failed command", STATE, () -> Offices.run(office, "day 0"));
        same("the latest of both", Whole.failures(office), " 7 0 a");
        Offices.run(office, "day");
        same("a right script leaves both", Whole.failures(office), " 7 0 a");
        refused("a call that fails", ARGUMENT, () -> office.passDays(0));
        refused("a call that fails", ELEMENT, () -> office.withdraw(0));
        same("a call leaves both", Whole.failures(office), " 7 0 a");
    }
}
