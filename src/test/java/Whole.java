import java.util.function.Supplier;

/**
 * All that the face can tell of an office, also what is undone, saved, typed and given next. Many looks change the
 * office, so each of them takes one of its own, and none makes more calls than the document allows.
 */
final class Whole {
    private Whole() {
    }

    static String of(Supplier<ColourOffice> office) {
        return "now " + now(office.get()) + "\nfailures " + failures(office.get()) + "\nnext " + next(office.get())
                + "\nbuffer " + buffer(office.get()) + "\nsnapshot " + snapshot(office.get())
                + "\npast " + past(office);
    }

    /** What stands in the office. */
    static String now(ColourOffice office) {
        StringBuilder all = new StringBuilder();
        all.append(office.day()).append(office.metric()).append(' ').append(office.coins()).append(' ')
                .append(office.coinsByAccounts()).append(' ').append(office.returnedTotal());
        for (int position = 0; position < office.colourCount(); position++) {
            int id = office.colourAt(position);
            all.append(" c").append(id).append(':').append(office.red(id)).append('/').append(office.green(id))
                    .append('/').append(office.blue(id)).append('f').append(office.fastness(id)).append('d')
                    .append(office.age(id));
        }
        for (int position = 0; position < office.reportCount(); position++) {
            office.renderReport(office.reportAt(position));
            all.append(" r").append(Offices.text(office));
        }
        return all.toString();
    }

    /** The output text, and what is told of failed scripts. */
    static String failures(ColourOffice office) {
        return Offices.text(office) + " " + answer(office::errorPosition) + " " + answer(office::failedCommand) + " "
                + answer(office::failureKind);
    }

    /** The ids that are given next. */
    static String next(ColourOffice office) {
        if (office.colourCount() == 10) {
            office.discard(office.colourAt(0));
        }
        if (office.reportCount() == 6) {
            office.withdraw(office.reportAt(0));
        }
        return office.addColour(1, 2, 3, 4) + " " + office.report(1, 2, 3, 4, 5);
    }

    /** What the script in the buffer does, and that the buffer is empty behind it. */
    private static String buffer(ColourOffice office) {
        String script = answer(office::runScript);
        String failures = failures(office);
        return script + " " + failures + " " + office.type(';') + " " + now(office);
    }

    private static String snapshot(ColourOffice office) {
        return answer(office::restore) + " " + answer(office::undo) + " " + now(office) + " " + next(office);
    }

    private static String past(Supplier<ColourOffice> make) {
        StringBuilder all = new StringBuilder();
        String last = "";
        for (int changes = 0; changes <= 9 && !last.startsWith("throws"); changes++) {
            ColourOffice office = make.get();
            for (int undone = 0; undone <= changes; undone++) {
                last = answer(office::undo);
            }
            all.append('\n').append(last).append(' ').append(now(office)).append(' ').append(next(office));
        }
        return all.toString();
    }

    static String answer(Supplier<Object> call) {
        try {
            return String.valueOf(call.get());
        } catch (RuntimeException thrown) {
            return "throws " + thrown.getClass().getSimpleName();
        }
    }
}
