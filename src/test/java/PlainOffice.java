import java.util.ArrayDeque;
import java.util.ArrayList;
import java.util.Comparator;
import java.util.Deque;
import java.util.List;
import java.util.NoSuchElementException;
import java.util.TreeMap;
import java.util.regex.Matcher;
import java.util.regex.Pattern;

/** The same office in the plainest way, with the whole Java library: what ColourOffice is compared with. */
public final class PlainOffice {
    private static final String NUMBER = "[0-9]{1,4}";
    private static final String COLOUR = "N/N/N";
    private static final String COMMAND = ("(?:find C N|report C N N|drop N|discard N|metric [msg]|return N N|settle"
            + "|mix N N|day(?: N)?)").replace("C", COLOUR).replace("N", NUMBER);
    private static final Pattern SCRIPT = Pattern.compile(COMMAND + "(?:;" + COMMAND + ")*");

    private record Found(int id, List<Integer> parts, int fastness, int age) {
        boolean isGrey() {
            return parts.equals(List.of(50, 50, 50));
        }

        Found older() {
            if ((age + 1) % fastness != 0) {
                return new Found(id, parts, fastness, age + 1);
            }
            List<Integer> faded = parts.stream().map(part -> part - Integer.signum(part - 50)).toList();
            return new Found(id, faded, fastness, age + 1);
        }

        int brightness() {
            return parts.stream().mapToInt(part -> part).sum();
        }
    }

    private record Lost(int id, List<Integer> parts, int tolerance, int reward) {
    }

    private record Settled(int reward, int distance, List<Integer> colours) {
    }

    private static final class Everything {
        TreeMap<Integer, Found> found = new TreeMap<>();
        TreeMap<Integer, Lost> lost = new TreeMap<>();
        int nextFound;
        int nextLost;
        int day;
        char metric = 'm';
        int coins;
        int returned;

        Everything copy() {
            Everything copy = new Everything();
            copy.found.putAll(found);
            copy.lost.putAll(lost);
            copy.nextFound = nextFound;
            copy.nextLost = nextLost;
            copy.day = day;
            copy.metric = metric;
            copy.coins = coins;
            copy.returned = returned;
            return copy;
        }
    }

    private Everything now = new Everything();
    private Everything saved;
    private final Deque<Everything> past = new ArrayDeque<>();
    private boolean inScript;
    private String typed = "";
    private String shown = "";
    private Integer wrongAt;
    private Integer failedAt;
    private char failure;

    private void change() {
        if (!inScript) {
            past.push(now.copy());
            if (past.size() > 8) {
                past.removeLast();
            }
        }
    }

    private static void demand(boolean holds, RuntimeException otherwise) {
        if (!holds) {
            throw otherwise;
        }
    }

    private static void demandArgument(boolean holds) {
        demand(holds, new IllegalArgumentException());
    }

    private static void demandElement(boolean holds) {
        demand(holds, new NoSuchElementException());
    }

    private static void demandParts(int... parts) {
        for (int part : parts) {
            demandArgument(part >= 0 && part <= 99);
        }
    }

    private Found found(int colour) {
        demandElement(now.found.containsKey(colour));
        return now.found.get(colour);
    }

    private Lost lost(int report) {
        demandElement(now.lost.containsKey(report));
        return now.lost.get(report);
    }

    private int gap(List<Integer> first, List<Integer> second) {
        int sum = 0;
        int squares = 0;
        int greatest = 0;
        for (int part = 0; part < 3; part++) {
            int gap = Math.abs(first.get(part) - second.get(part));
            sum += gap;
            squares += gap * gap;
            greatest = Math.max(greatest, gap);
        }
        return now.metric == 'm' ? sum : now.metric == 's' ? squares : greatest;
    }

    private int nearestTo(List<Integer> parts) {
        return now.found.values().stream()
                .min(Comparator.comparing((Found f) -> gap(f.parts, parts)).thenComparing(Found::id))
                .orElseThrow(NoSuchElementException::new).id;
    }

    public int addColour(int red, int green, int blue, int fastness) {
        demandParts(red, green, blue);
        demandArgument(fastness >= 1 && fastness <= 9);
        demand(now.found.size() < 10, new IllegalStateException());
        change();
        int id = now.nextFound++;
        now.found.put(id, new Found(id, List.of(red, green, blue), fastness, 0));
        return id;
    }

    public int report(int red, int green, int blue, int tolerance, int reward) {
        demandParts(red, green, blue);
        demandArgument(tolerance >= 0 && tolerance <= 9999 && reward >= 1 && reward <= 99);
        demand(now.lost.size() < 6, new IllegalStateException());
        change();
        int id = now.nextLost++;
        now.lost.put(id, new Lost(id, List.of(red, green, blue), tolerance, reward));
        return id;
    }

    public int withdraw(int report) {
        lost(report);
        change();
        now.lost.remove(report);
        return now.lost.size();
    }

    public int discard(int colour) {
        found(colour);
        change();
        now.found.remove(colour);
        now.coins--;
        return now.found.size();
    }

    public char setMetric(char metric) {
        demandArgument("msg".indexOf(metric) >= 0);
        change();
        char previous = now.metric;
        now.metric = metric;
        return previous;
    }

    private void handOver(int report, int colour) {
        now.coins += now.lost.remove(report).reward;
        now.found.remove(colour);
        now.returned++;
    }

    public int giveBack(int report, int colour) {
        int reward = lost(report).reward;
        found(colour);
        demand(nearestFor(report) == colour && fits(report, colour), new UnsupportedOperationException());
        change();
        handOver(report, colour);
        return reward;
    }

    public int settle() {
        List<Integer> colours = bestSettlement().colours;
        List<Lost> reports = List.copyOf(now.lost.values());
        change();
        int before = now.found.size();
        for (int index = 0; index < reports.size(); index++) {
            if (colours.get(index) != null) {
                handOver(reports.get(index).id, colours.get(index));
            }
        }
        return before - now.found.size();
    }

    public int mix(int first, int second) {
        Found one = found(first);
        Found other = found(second);
        demandArgument(first != second);
        change();
        now.found.remove(first);
        now.found.remove(second);
        List<Integer> parts = new ArrayList<>();
        for (int part = 0; part < 3; part++) {
            parts.add((one.parts.get(part) + other.parts.get(part)) / 2);
        }
        int id = now.nextFound++;
        now.found.put(id, new Found(id, List.copyOf(parts), Math.min(one.fastness, other.fastness), 0));
        return id;
    }

    public int passDays(int days) {
        demandArgument(days >= 1 && days <= 99);
        change();
        for (int passed = 0; passed < days; passed++) {
            now.day++;
            now.found.replaceAll((id, colour) -> colour.older());
        }
        return greyCount();
    }

    private int greyCount() {
        return (int) now.found.values().stream().filter(Found::isGrey).count();
    }

    public int colourCount() {
        return now.found.size();
    }

    public int colourAt(int position) {
        demandElement(position >= 0 && position < now.found.size());
        return List.copyOf(now.found.keySet()).get(position);
    }

    public int red(int colour) {
        return found(colour).parts.get(0);
    }

    public int green(int colour) {
        return found(colour).parts.get(1);
    }

    public int blue(int colour) {
        return found(colour).parts.get(2);
    }

    public int fastness(int colour) {
        return found(colour).fastness;
    }

    public int age(int colour) {
        return found(colour).age;
    }

    public int daysUntilGrey(int colour) {
        Found later = found(colour);
        int days = 0;
        while (!later.isGrey()) {
            later = later.older();
            days++;
        }
        return days;
    }

    public int colourByBrightness(int rank) {
        demandElement(rank >= 0 && rank < now.found.size());
        return now.found.values().stream()
                .sorted(Comparator.comparing(Found::brightness).reversed().thenComparing(Found::id))
                .toList().get(rank).id;
    }

    public int reportCount() {
        return now.lost.size();
    }

    public int reportAt(int position) {
        demandElement(position >= 0 && position < now.lost.size());
        return List.copyOf(now.lost.keySet()).get(position);
    }

    public int toleranceOf(int report) {
        return lost(report).tolerance;
    }

    public int rewardOf(int report) {
        return lost(report).reward;
    }

    public int distanceFor(int report, int colour) {
        return gap(lost(report).parts, found(colour).parts);
    }

    public boolean fits(int report, int colour) {
        return distanceFor(report, colour) <= toleranceOf(report);
    }

    public int nearestFor(int report) {
        return nearestTo(lost(report).parts);
    }

    public int distance(int first, int second) {
        return gap(found(first).parts, found(second).parts);
    }

    public int nearest(int red, int green, int blue) {
        demandParts(red, green, blue);
        return nearestTo(List.of(red, green, blue));
    }

    public int nearestByLooking(int red, int green, int blue) {
        return nearest(red, green, blue);
    }

    public int closestDistance() {
        List<Found> all = List.copyOf(now.found.values());
        demandElement(all.size() >= 2);
        int least = Integer.MAX_VALUE;
        for (Found one : all) {
            for (Found other : all) {
                least = one == other ? least : Math.min(least, gap(one.parts, other.parts));
            }
        }
        return least;
    }

    public int closestDistanceBySorting() {
        return closestDistance();
    }

    // All settlements, those first that give the first report a lower id, none last: the first of the best ones stays.
    private Settled bestSettlement() {
        return bestOf(List.copyOf(now.lost.values()), new ArrayList<>(), 0, 0, null);
    }

    private Settled bestOf(List<Lost> reports, List<Integer> given, int reward, int distance, Settled best) {
        if (given.size() == reports.size()) {
            boolean better = best == null || reward > best.reward
                    || reward == best.reward && distance < best.distance;
            return better ? new Settled(reward, distance, new ArrayList<>(given)) : best;
        }
        Lost report = reports.get(given.size());
        Settled found = best;
        for (Found colour : now.found.values()) {
            int gap = gap(report.parts, colour.parts);
            if (gap <= report.tolerance && !given.contains(colour.id)) {
                given.add(colour.id);
                found = bestOf(reports, given, reward + report.reward, distance + gap, found);
                given.remove(given.size() - 1);
            }
        }
        given.add(null);
        found = bestOf(reports, given, reward, distance, found);
        given.remove(given.size() - 1);
        return found;
    }

    public int bestReward() {
        return bestSettlement().reward;
    }

    public int bestRewardByTrying() {
        return bestReward();
    }

    public int bestDifference() {
        return bestSettlement().distance;
    }

    public int settlementFor(int report) {
        lost(report);
        Integer colour = bestSettlement().colours.get(List.copyOf(now.lost.keySet()).indexOf(report));
        demandElement(colour != null);
        return colour;
    }

    private int errorOf(List<Found> palette) {
        return now.found.values().stream()
                .mapToInt(colour -> palette.stream().mapToInt(p -> gap(p.parts, colour.parts)).min().orElse(0))
                .sum();
    }

    // All palettes of a size, those first that contain lower ids.
    private void collect(List<Found> left, int size, List<Found> taken, List<List<Found>> all) {
        if (taken.size() == size) {
            all.add(List.copyOf(taken));
            return;
        }
        for (int index = 0; index < left.size(); index++) {
            taken.add(left.get(index));
            collect(left.subList(index + 1, left.size()), size, taken, all);
            taken.remove(taken.size() - 1);
        }
    }

    private List<Found> bestPalette(int size) {
        demandArgument(size >= 1 && size <= now.found.size());
        List<List<Found>> all = new ArrayList<>();
        collect(List.copyOf(now.found.values()), size, new ArrayList<>(), all);
        return all.stream().min(Comparator.comparing(this::errorOf)).orElseThrow();
    }

    public int paletteError(int size) {
        return errorOf(bestPalette(size));
    }

    public int paletteErrorBySearch(int size) {
        return paletteError(size);
    }

    public int paletteColour(int size, int position) {
        List<Found> palette = bestPalette(size);
        demandElement(position >= 0 && position < size);
        return palette.get(position).id;
    }

    public int day() {
        return now.day;
    }

    public char metric() {
        return now.metric;
    }

    public int coins() {
        return now.coins;
    }

    public int coinsByAccounts() {
        return now.coins;
    }

    public int returnedTotal() {
        return now.returned;
    }

    public double meanBrightness() {
        demand(!now.found.isEmpty(), new ArithmeticException());
        int sum = now.found.values().stream().mapToInt(Found::brightness).sum();
        return (double) sum / (3 * now.found.size());
    }

    public float greyShare() {
        demand(!now.found.isEmpty(), new ArithmeticException());
        return (float) greyCount() / now.found.size();
    }

    public boolean isConsistent() {
        return true;
    }

    private static String slashed(List<Integer> parts) {
        return parts.get(0) + "/" + parts.get(1) + "/" + parts.get(2);
    }

    public int renderColour(int colour) {
        Found f = found(colour);
        shown = f.id + "#" + slashed(f.parts) + "f" + f.fastness + "d" + f.age + (f.isGrey() ? "g" : "");
        return shown.length();
    }

    public int renderReport(int report) {
        Lost l = lost(report);
        shown = l.id + "?" + slashed(l.parts) + "~" + l.tolerance + "+" + l.reward;
        return shown.length();
    }

    public char outputAt(int index) {
        demand(index >= 0 && index < shown.length(), new IndexOutOfBoundsException());
        return shown.charAt(index);
    }

    public int type(char character) {
        demandArgument(character >= 32 && character <= 126);
        demand(typed.length() < 60, new IllegalStateException());
        typed += character;
        return typed.length();
    }

    private static boolean canContinue(String start) {
        Matcher matcher = SCRIPT.matcher(start);
        return matcher.matches() || matcher.hitEnd();
    }

    public int runScript() {
        String script = typed;
        typed = "";
        if (!SCRIPT.matcher(script).matches()) {
            int at = 0;
            while (at < script.length() && canContinue(script.substring(0, at + 1))) {
                at++;
            }
            wrongAt = at;
            throw new IllegalArgumentException();
        }
        String[] commands = script.split(";");
        Everything before = now.copy();
        inScript = true;
        for (int index = 0; index < commands.length; index++) {
            RuntimeException thrown = thrownBy(commands[index]);
            if (thrown != null) {
                inScript = false;
                now = before;
                failedAt = index;
                failure = thrown instanceof IllegalArgumentException ? 'a'
                        : thrown instanceof IllegalStateException ? 's'
                        : thrown instanceof NoSuchElementException ? 'e' : 'u';
                throw new IllegalStateException();
            }
        }
        inScript = false;
        Everything after = now;
        now = before;
        change();
        now = after;
        return commands.length;
    }

    private RuntimeException thrownBy(String command) {
        String[] words = command.split("[ /]");
        int[] n = new int[words.length];
        for (int index = 1; index < words.length; index++) {
            n[index] = words[0].equals("metric") ? words[index].charAt(0) : Integer.parseInt(words[index]);
        }
        try {
            switch (words[0]) {
                case "find" -> addColour(n[1], n[2], n[3], n[4]);
                case "report" -> report(n[1], n[2], n[3], n[4], n[5]);
                case "drop" -> withdraw(n[1]);
                case "discard" -> discard(n[1]);
                case "metric" -> setMetric((char) n[1]);
                case "return" -> giveBack(n[1], n[2]);
                case "settle" -> settle();
                case "mix" -> mix(n[1], n[2]);
                default -> passDays(n.length == 1 ? 1 : n[1]);
            }
        } catch (RuntimeException thrown) {
            return thrown;
        }
        return null;
    }

    public int errorPosition() {
        demandElement(wrongAt != null);
        return wrongAt;
    }

    public int failedCommand() {
        demandElement(failedAt != null);
        return failedAt;
    }

    public char failureKind() {
        demandElement(failedAt != null);
        return failure;
    }

    public int undo() {
        demandElement(!past.isEmpty());
        now = past.pop();
        return past.size();
    }

    public int save() {
        saved = now.copy();
        return now.found.size();
    }

    public int restore() {
        demand(saved != null, new IllegalStateException());
        now = saved.copy();
        past.clear();
        return now.found.size();
    }
}
