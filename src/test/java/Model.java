import java.util.ArrayDeque;
import java.util.ArrayList;
import java.util.Comparator;
import java.util.Deque;
import java.util.List;

/**
 * The document's terms said once more, as slowly and as literally as they stand there: every
 * answer is worked out anew from what was told. ModelTest compares NoisePost with it.
 */
final class Model {
    private static final int NONE = -1;
    private static final int[] LEAST = {0, 0, 0, 0, 1, 0, 1, 0, 1, 1};
    private static final int[] MOST = {140, 140, 59, 60, 41, 20, 20, 60, 20, 50};

    record Minute(int level, int wind) {
    }

    record Told(List<Minute> minutes, List<Integer> settings, List<Integer> complaints) {
        Told copy() {
            return new Told(new ArrayList<>(minutes), new ArrayList<>(settings), new ArrayList<>(complaints));
        }
    }

    /** An exceedance: the minutes of it that are above. */
    record Exceedance(List<Integer> above) {
        int first() {
            return above.get(0);
        }

        int last() {
            return above.get(above.size() - 1);
        }
    }

    private Told told = new Told(new ArrayList<>(),
        new ArrayList<>(List.of(70, 60, 40, 20, 15, 2, 3, 10, 2, 8)), new ArrayList<>());
    private final Deque<Told> saved = new ArrayDeque<>();
    private String buffer = "";

    // ---- changes

    int set(int setting, int value) {
        index(setting >= 0 && setting <= 9);
        argument(value >= LEAST[setting] && value <= MOST[setting]);
        save();
        return told.settings.set(setting, value);
    }

    int tell(int level, int wind, int minutes) {
        argument(in(level, 0, 140) && in(wind, 0, 40) && in(minutes, 1, 60));
        state(told.minutes.size() + minutes <= 200);
        save();
        for (int i = 0; i < minutes; i++) {
            told.minutes.add(new Minute(level, wind));
        }
        return told.minutes.size();
    }

    int correct(int minute, int level, int wind) {
        index(in(minute, 0, told.minutes.size() - 1));
        argument(in(level, 0, 140) && in(wind, 0, 40));
        save();
        told.minutes.set(minute, new Minute(level, wind));
        return exceedances(told).size();
    }

    int forget(int minutes) {
        argument(in(minutes, 1, told.minutes.size()));
        save();
        told.minutes.subList(0, minutes).clear();
        told.complaints.replaceAll(minute -> Math.max(minute - minutes, 0));
        return told.minutes.size();
    }

    int complain(int minute) {
        argument(in(minute, 0, 300));
        state(told.complaints.size() < 20);
        save();
        told.complaints.add(minute);
        return told.complaints.size() - 1;
    }

    int withdraw(int complaint) {
        index(in(complaint, 0, told.complaints.size() - 1));
        int matched = complaint(complaint, 1);
        save();
        told.complaints.remove(complaint);
        return matched;
    }

    // ---- texts

    int append(int code) {
        argument(in(code, 33, 126));
        state(buffer.length() < 60);
        buffer += (char) code;
        return buffer.length();
    }

    int clearBuffer() {
        int length = buffer.length();
        buffer = "";
        return length;
    }

    int firstError() {
        for (int i = 0; i < buffer.length(); i++) {
            if (!beginsText(buffer.substring(0, i + 1))) {
                return i;
            }
        }
        return buffer.length();
    }

    int load() {
        argument(isText(buffer));
        List<Minute> more = new ArrayList<>();
        for (String part : buffer.split(";", -1)) {
            String[] times = part.split("\\*", -1);
            String[] wind = times[0].split("@", -1);
            int howMany = times.length > 1 ? Integer.parseInt(times[1]) : 1;
            for (int i = 0; i < howMany; i++) {
                more.add(new Minute(Integer.parseInt(wind[0]), wind.length > 1 ? Integer.parseInt(wind[1]) : 0));
            }
        }
        state(told.minutes.size() + more.size() <= 200);
        save();
        told.minutes.addAll(more);
        buffer = "";
        return told.minutes.size();
    }

    int undo() {
        state(!saved.isEmpty());
        told = saved.removeLast();
        return saved.size();
    }

    /** Each beginning of a text becomes a text by one more number at the most, or its second digit. */
    private static boolean beginsText(String text) {
        return isText(text) || isText(text + "0") || isText(text + "2");
    }

    private static boolean isText(String text) {
        for (String part : text.split(";", -1)) {
            String[] times = part.split("\\*", -1);
            String[] wind = times[0].split("@", -1);
            boolean fits = times.length <= 2 && wind.length <= 2 && isNumber(wind[0], 0, 140)
                && (wind.length < 2 || isNumber(wind[1], 0, 40)) && (times.length < 2 || isNumber(times[1], 2, 60));
            if (!fits) {
                return false;
            }
        }
        return true;
    }

    private static boolean isNumber(String text, int least, int most) {
        for (int number = least; number <= most; number++) {
            if (text.equals(Integer.toString(number))) {
                return true;
            }
        }
        return false;
    }

    // ---- what there is

    int minute(int minute, int what) {
        index(in(minute, 0, told.minutes.size() - 1));
        argument(in(what, 0, 7));
        switch (what) {
            case 0:
                return told.minutes.get(minute).level;
            case 1:
                return told.minutes.get(minute).wind;
            case 2:
                return arm(told, minute, 8);
            case 3:
                return arm(told, minute, 9);
            case 4:
                return limit(told, minute);
            case 5:
                return isRest(told, minute) ? 1 : 0;
            case 6:
                return why(minute);
            default:
                List<Exceedance> all = exceedances(told);
                for (Exceedance one : all) {
                    if (one.first() <= minute && minute <= one.last()) {
                        return all.indexOf(one);
                    }
                }
                return NONE;
        }
    }

    private int why(int minute) {
        if (isAbove(told, minute)) {
            return 0;
        }
        if (isWindy(told, minute)) {
            return 1;
        }
        return isVetoed(told, minute) ? 2 : 3;
    }

    int exceedance(int exceedance, int what) {
        List<Exceedance> all = exceedances(told);
        index(in(exceedance, 0, all.size() - 1));
        argument(in(what, 0, 5));
        Exceedance one = all.get(exceedance);
        switch (what) {
            case 0:
                return one.first();
            case 1:
                return one.last();
            case 2:
                return one.above.size();
            case 3:
                return peak(told, one);
            case 4:
                return weight(told, one);
            default:
                return matches(told).indexOf(exceedance);
        }
    }

    int complaint(int complaint, int what) {
        index(in(complaint, 0, told.complaints.size() - 1));
        argument(in(what, 0, 1));
        return what == 0 ? told.complaints.get(complaint) : matches(told).get(complaint);
    }

    int levelCount(int level) {
        argument(in(level, 0, 140));
        int found = 0;
        for (int minute = 0; minute < told.minutes.size(); minute++) {
            if (!isVetoed(told, minute) && arm(told, minute, 8) >= 10 * level) {
                found++;
            }
        }
        return found;
    }

    int percentLevel(int percent) {
        argument(in(percent, 1, 100));
        int counted = count(1);
        int best = NONE;
        for (int level = 0; level <= 140 && counted > 0; level++) {
            if (levelCount(level) * 100 >= percent * counted) {
                best = level;
            }
        }
        return best;
    }

    int count(int what) {
        argument(in(what, 0, 11));
        return what == 10 ? saved.size() : count(told, what);
    }

    private static int count(Told told, int what) {
        int minutes = told.minutes.size();
        List<Exceedance> all = exceedances(told);
        int found = 0;
        switch (what) {
            case 0:
                return minutes;
            case 1:
                return minutes - count(told, 2);
            case 2:
                for (int minute = 0; minute < minutes; minute++) {
                    found += isVetoed(told, minute) ? 1 : 0;
                }
                return found;
            case 3:
                for (int minute = 0; minute < minutes; minute++) {
                    found += isRest(told, minute) ? 1 : 0;
                }
                return found;
            case 4:
                for (int minute = 0; minute < minutes; minute++) {
                    found += isAbove(told, minute) ? 1 : 0;
                }
                return found;
            case 5:
                return all.size();
            case 6:
                return told.complaints.size();
            case 7:
                return (int) matches(told).stream().filter(match -> match != NONE).count();
            case 8:
                return all.stream().mapToInt(one -> weight(told, one)).sum();
            case 9:
                int most = all.stream().mapToInt(one -> weight(told, one)).max().orElse(0);
                return all.stream().map(one -> weight(told, one)).toList().indexOf(most);
            default:
                return all.size() > 0 && minutes - 1 - all.get(all.size() - 1).last() < told.settings.get(6) ? 1 : 0;
        }
    }

    int setting(int setting) {
        index(in(setting, 0, 9));
        return told.settings.get(setting);
    }

    // ---- what would be

    int ifSet(int setting, int value, int what) {
        index(in(setting, 0, 9));
        argument(in(value, LEAST[setting], MOST[setting]) && in(what, 0, 9));
        return count(with(setting, value), what);
    }

    int leastLimit(int exceedances) {
        argument(in(exceedances, 0, 200));
        for (int limit = 0; limit <= 140; limit++) {
            if (exceedances(with(0, limit)).size() <= exceedances) {
                return limit;
            }
        }
        return NONE;
    }

    int aboveIn(int level) {
        argument(in(level, 0, 140));
        Told longer = told.copy();
        for (int further = 1; further <= 100; further++) {
            longer.minutes.add(new Minute(level, 0));
            if (isAbove(longer, longer.minutes.size() - 1)) {
                return further;
            }
        }
        return NONE;
    }

    double share() {
        return count(1) == 0 ? 0.0 : (double) count(4) / count(1);
    }

    long digest() {
        List<Long> values = new ArrayList<>();
        for (int what = 0; what <= 11; what++) {
            values.add((long) count(what));
        }
        for (int setting : told.settings) {
            values.add((long) setting);
        }
        for (int minute = 0; minute < told.minutes.size(); minute++) {
            for (int what = 0; what <= 7; what++) {
                values.add((long) minute(minute, what));
            }
        }
        for (int exceedance = 0; exceedance < exceedances(told).size(); exceedance++) {
            for (int what = 0; what <= 5; what++) {
                values.add((long) exceedance(exceedance, what));
            }
        }
        for (int complaint = 0; complaint < told.complaints.size(); complaint++) {
            values.add((long) complaint(complaint, 0));
            values.add((long) complaint(complaint, 1));
        }
        for (int level = 0; level <= 140; level += 10) {
            values.add((long) levelCount(level));
        }
        for (int percent : List.of(1, 10, 50, 90, 100)) {
            values.add((long) percentLevel(percent));
        }
        values.add((long) leastLimit(1));
        values.add((long) aboveIn(80));
        values.add(Double.doubleToLongBits(share()));
        values.add((long) buffer.length());
        buffer.chars().forEach(code -> values.add((long) code));
        long hash = 2161;
        for (long value : values) {
            hash = 31 * hash + value;
        }
        return hash;
    }

    // ---- terms

    private static int arm(Told told, int minute, int timeSetting) {
        int place = 0;
        for (int i = 0; i <= minute; i++) {
            place += (10 * told.minutes.get(i).level - place) / told.settings.get(timeSetting);
        }
        return place;
    }

    private static boolean isWindy(Told told, int minute) {
        return told.minutes.get(minute).wind >= told.settings.get(4);
    }

    private static boolean isVetoed(Told told, int minute) {
        for (int before = 0; before <= told.settings.get(5) && before <= minute; before++) {
            if (isWindy(told, minute - before)) {
                return true;
            }
        }
        return false;
    }

    private static boolean isRest(Told told, int minute) {
        int place = (minute - told.settings.get(2)) % 60;
        return (place < 0 ? place + 60 : place) < told.settings.get(3);
    }

    private static int limit(Told told, int minute) {
        return told.settings.get(isRest(told, minute) ? 1 : 0);
    }

    private static boolean isAbove(Told told, int minute) {
        return !isVetoed(told, minute) && arm(told, minute, 9) > 10 * limit(told, minute);
    }

    private static List<Exceedance> exceedances(Told told) {
        List<Exceedance> all = new ArrayList<>();
        for (int minute = 0; minute < told.minutes.size(); minute++) {
            if (isAbove(told, minute)) {
                boolean goesOn = all.size() > 0
                    && minute - all.get(all.size() - 1).last() - 1 < told.settings.get(6);
                if (!goesOn) {
                    all.add(new Exceedance(new ArrayList<>()));
                }
                all.get(all.size() - 1).above.add(minute);
            }
        }
        return all;
    }

    private static int peak(Told told, Exceedance one) {
        return one.above.stream().mapToInt(minute -> arm(told, minute, 8)).max().orElseThrow();
    }

    private static int weight(Told told, Exceedance one) {
        return one.above.stream().mapToInt(minute -> arm(told, minute, 9) - 10 * limit(told, minute)).sum();
    }

    /** By complaints: the exceedance of each, or NONE. */
    private static List<Integer> matches(Told told) {
        List<Exceedance> all = exceedances(told);
        List<Integer> order = new ArrayList<>();
        List<Integer> matches = new ArrayList<>();
        for (int complaint = 0; complaint < told.complaints.size(); complaint++) {
            order.add(complaint);
            matches.add(NONE);
        }
        order.sort(Comparator.comparing(told.complaints::get));
        for (int complaint : order) {
            int minute = told.complaints.get(complaint);
            List<Exceedance> open = new ArrayList<>();
            for (Exceedance one : all) {
                if (!matches.contains(all.indexOf(one)) && one.first() <= minute
                    && one.last() >= minute - told.settings.get(7)) {
                    open.add(one);
                }
            }
            open.sort(Comparator.comparing((Exceedance one) -> -peak(told, one)));
            matches.set(complaint, open.isEmpty() ? NONE : all.indexOf(open.get(0)));
        }
        return matches;
    }

    private Told with(int setting, int value) {
        Told other = told.copy();
        other.settings.set(setting, value);
        return other;
    }

    private void save() {
        saved.addLast(told.copy());
        if (saved.size() > 8) {
            saved.removeFirst();
        }
    }

    private static boolean in(int value, int least, int most) {
        return value >= least && value <= most;
    }

    private static void index(boolean holds) {
        if (!holds) {
            throw new IndexOutOfBoundsException();
        }
    }

    private static void argument(boolean holds) {
        if (!holds) {
            throw new IllegalArgumentException();
        }
    }

    private static void state(boolean holds) {
        if (!holds) {
            throw new IllegalStateException();
        }
    }
}
