/** Posts that the tests begin with. */
final class Posts {
    static final Class<IllegalArgumentException> ARGUMENT = IllegalArgumentException.class;
    static final Class<IllegalStateException> STATE = IllegalStateException.class;
    static final Class<IndexOutOfBoundsException> INDEX = IndexOutOfBoundsException.class;
    static final int[] SETTING_LEAST = {0, 0, 0, 0, 1, 0, 1, 0, 1, 1};
    static final int[] SETTING_MOST = {140, 140, 59, 60, 41, 20, 20, 60, 20, 50};
    static final int[] SETTING_AT_FIRST = {70, 60, 40, 20, 15, 2, 3, 10, 2, 8};

    private Posts() {
    }

    /** Both arms stand at the level at once, there is no rest, and two settings are made: 4 states are saved. */
    static NoisePost quick(int limit) {
        NoisePost post = new NoisePost();
        post.set(8, 1);
        post.set(9, 1);
        post.set(3, 0);
        post.set(0, limit);
        return post;
    }

    /** A quick post with the limit 50 and one minute for each level. */
    static NoisePost withLevels(int... levels) {
        NoisePost post = quick(50);
        for (int level : levels) {
            post.tell(level, 0, 1);
        }
        return post;
    }

    static void write(NoisePost post, String text) {
        for (int i = 0; i < text.length(); i++) {
            post.append(text.charAt(i));
        }
    }

    /** All that undo restores, and what follows from it, but for the saved states. */
    static String shown(NoisePost post) {
        StringBuilder text = new StringBuilder();
        for (int what = 0; what <= 11; what++) {
            text.append(what == 10 ? 0 : post.count(what)).append(' ');
        }
        for (int setting = 0; setting <= 9; setting++) {
            text.append(post.setting(setting)).append(' ');
        }
        for (int minute = 0; minute < post.count(0); minute++) {
            for (int what = 0; what <= 7; what++) {
                text.append(post.minute(minute, what)).append(' ');
            }
        }
        for (int exceedance = 0; exceedance < post.count(5); exceedance++) {
            for (int what = 0; what <= 5; what++) {
                text.append(post.exceedance(exceedance, what)).append(' ');
            }
        }
        for (int complaint = 0; complaint < post.count(6); complaint++) {
            text.append(post.complaint(complaint, 0)).append(' ').append(post.complaint(complaint, 1)).append(' ');
        }
        return text.toString();
    }
}
