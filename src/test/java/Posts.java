import java.util.function.Supplier;
import java.util.stream.LongStream;

/** Posts that the tests begin with. */
final class Posts {
    static final Class<IllegalArgumentException> ARGUMENT = IllegalArgumentException.class;
    static final Class<IllegalStateException> STATE = IllegalStateException.class;
    static final Class<IndexOutOfBoundsException> INDEX = IndexOutOfBoundsException.class;
    static final int[] SETTING_LEAST = {0, 0, 0, 0, 1, 0, 1, 0, 1, 1};
    static final int[] SETTING_MOST = {140, 140, 59, 60, 41, 20, 20, 60, 20, 50};
    static final int[] SETTING_AT_FIRST = {70, 60, 40, 20, 15, 2, 3, 10, 2, 8};

    private Posts() {
    }

    /** Both arms stand at the level at once, there is no rest, and two settings are made: 4 states are saved. */
    static NoisePost quick(int limit) {
        NoisePost post = new NoisePost();
        post.set(8, 1);
        post.set(9, 1);
        post.set(3, 0);
        post.set(0, limit);
        return post;
    }

    /** A quick post with the limit 50 and one minute for each level. */
    static NoisePost withLevels(int... levels) {
        NoisePost post = quick(50);
        for (int level : levels) {
            post.tell(level, 0, 1);
        }
        return post;
    }

    static void write(NoisePost post, String text) {
        for (int i = 0; i < text.length(); i++) {
            post.append(text.charAt(i));
        }
    }

    /** All that undo restores, and what follows from it, but for the saved states. */
    static String shown(Supplier<NoisePost> maker) {
        StringBuilder text = new StringBuilder();
        Fresh fresh = new Fresh(maker);
        for (int what = 0; what <= 11; what++) {
            text.append(what == 10 ? 0 : fresh.post().count(what)).append(' ');
        }
        for (int setting = 0; setting <= 9; setting++) {
            text.append(fresh.post().setting(setting)).append(' ');
        }
        for (long value : properties(fresh)) {
            text.append(value).append(' ');
        }
        return text.toString();
    }

    static long hash(long before, long... values) {
        long hash = before;
        for (long value : values) {
            hash = 31 * hash + value;
        }
        return hash;
    }

    /** The hash of all values in front of the share, in the document's order. */
    static long hashBeforeShare(Supplier<NoisePost> maker) {
        Fresh fresh = new Fresh(maker);
        long hash = 2161;
        for (int what = 0; what <= 11; what++) {
            hash = hash(hash, fresh.post().count(what));
        }
        for (int setting = 0; setting <= 9; setting++) {
            hash = hash(hash, fresh.post().setting(setting));
        }
        hash = hash(hash, properties(fresh));
        for (int level = 0; level <= 140; level += 10) {
            hash = hash(hash, fresh.post().levelCount(level));
        }
        for (int percent : new int[] {1, 10, 50, 90, 100}) {
            hash = hash(hash, fresh.post().percentLevel(percent));
        }
        return hash(hash, fresh.post().leastLimit(1), fresh.post().aboveIn(80));
    }

    /** Those of each minute, then those of each exceedance, then those of each complaint. */
    private static long[] properties(Fresh fresh) {
        LongStream.Builder values = LongStream.builder();
        int minutes = fresh.post().count(0);
        for (int minute = 0; minute < minutes; minute++) {
            for (int what = 0; what <= 7; what++) {
                values.add(fresh.post().minute(minute, what));
            }
        }
        int exceedances = fresh.post().count(5);
        for (int exceedance = 0; exceedance < exceedances; exceedance++) {
            for (int what = 0; what <= 5; what++) {
                values.add(fresh.post().exceedance(exceedance, what));
            }
        }
        int complaints = fresh.post().count(6);
        for (int complaint = 0; complaint < complaints; complaint++) {
            values.add(fresh.post().complaint(complaint, 0));
            values.add(fresh.post().complaint(complaint, 1));
        }
        return values.build().toArray();
    }
}
