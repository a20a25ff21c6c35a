import java.util.function.Supplier;

/**
 * A post that is asked for so much that it is made again and again, by the same calls: what is
 * answered behind the 512th call of one object is free.
 */
final class Fresh {
    private static final int ASKED_AT_MOST = 200;

    private final Supplier<NoisePost> maker;
    private NoisePost made;
    private int asked;

    /** The maker needs at most 312 calls. */
    Fresh(Supplier<NoisePost> maker) {
        this.maker = maker;
    }

    /** The post, for one call that changes nothing. */
    NoisePost post() {
        if (asked % ASKED_AT_MOST == 0) {
            made = maker.get();
        }
        asked++;
        return made;
    }
}
