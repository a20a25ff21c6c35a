/** Promises 20 to 24: other settings, the least limit, further minutes, the share, the digest. */
final class WhatWouldBeTest {
    private final Check check = new Check();

    public static void main(String[] args) {
        WhatWouldBeTest test = new WhatWouldBeTest();
        test.promise20IfSet();
        test.promise20IsAsSetAndUndone();
        test.promise20Throws();
        test.promise21LeastLimit();
        test.promise21RestLimitStays();
        test.promise21Throws();
        test.promise22AboveIn();
        test.promise22RestAndVetoes();
        test.promise22AtMost100();
        test.promise22Throws();
        test.promise23Share();
        test.promise24DigestOfANewPost();
        test.promise24Digest();
        test.promise24DigestOfEachShare();
        test.check.end("WhatWouldBeTest");
    }

    private static NoisePost busy() {
        NoisePost post = new NoisePost();
        post.tell(95, 2, 14);
        post.tell(20, 0, 8);
        post.tell(100, 16, 2);
        post.tell(110, 1, 12);
        post.tell(30, 3, 9);
        post.tell(75, 0, 20);
        post.complain(11);
        post.complain(70);
        post.complain(30);
        return post;
    }

    private void promise20IfSet() {
        NoisePost post = Posts.withLevels(60, 55, 0, 0, 70);
        post.complain(4);
        int[][] due = {{0, 0, 4, 3}, {0, 60, 4, 1}, {0, 59, 5, 2}, {0, 59, 4, 2}, {0, 69, 8, 10}, {0, 140, 9, -1},
            {0, 59, 9, 1}, {1, 0, 4, 3}, {3, 60, 3, 5}, {3, 60, 4, 1}, {4, 1, 2, 0}, {6, 1, 5, 2}, {6, 3, 5, 1},
            {6, 2, 5, 2}, {7, 0, 7, 1}, {9, 2, 4, 0}, {8, 20, 4, 3}, {0, 70, 0, 5}, {0, 70, 1, 5}, {0, 70, 6, 1},
            {0, 70, 7, 0}};
        for (int[] one : due) {
            check.is("20: ifSet(" + one[0] + ", " + one[1] + ", " + one[2] + ")",
                one[3], post.ifSet(one[0], one[1], one[2]));
        }
        check.is("20: nothing is changed", 3, post.count(4));
        check.is("20: nothing is changed", 50, post.setting(0));
        check.is("20: nothing is changed", 3, post.setting(6));
    }

    private void promise20IsAsSetAndUndone() {
        for (int setting = 0; setting <= 9; setting++) {
            NoisePost post = busy();
            int least = Posts.SETTING_LEAST[setting];
            int most = Posts.SETTING_MOST[setting];
            for (int value : new int[] {least, least + 1, (least + most) / 2, most - 1, most}) {
                NoisePost other = busy();
                other.set(setting, value);
                for (int what = 0; what <= 9; what++) {
                    check.is("20: ifSet(" + setting + ", " + value + ", " + what + ")",
                        other.count(what), post.ifSet(setting, value, what));
                }
            }
            check.is("20: nothing is changed", busy().digest(), post.digest());
        }
    }

    private void promise20Throws() {
        NoisePost post = busy();
        for (int setting : new int[] {-1, 10, Integer.MAX_VALUE, Integer.MIN_VALUE}) {
            check.isThrown("20: no such setting", Posts.INDEX, () -> post.ifSet(setting, 10, 0));
            check.isThrown("20: no such setting comes first", Posts.INDEX, () -> post.ifSet(setting, -1, 10));
        }
        for (int setting = 0; setting <= 9; setting++) {
            int number = setting;
            int below = Posts.SETTING_LEAST[setting] - 1;
            int beyond = Posts.SETTING_MOST[setting] + 1;
            check.isThrown("20: value", Posts.ARGUMENT, () -> post.ifSet(number, below, 0));
            check.isThrown("20: value", Posts.ARGUMENT, () -> post.ifSet(number, beyond, 0));
        }
        for (int what : new int[] {-1, 10, 11, 12, Integer.MAX_VALUE, Integer.MIN_VALUE}) {
            check.isThrown("20: what " + what, Posts.ARGUMENT, () -> post.ifSet(0, 10, what));
        }
    }

    private void promise21LeastLimit() {
        NoisePost post = Posts.withLevels(60, 30, 30, 30, 70, 40, 40, 40, 60);
        check.is("21: none", 70, post.leastLimit(0));
        check.is("21: at most 1: with the limit 0 all is one", 0, post.leastLimit(1));
        check.is("21: at most 2", 0, post.leastLimit(2));
        check.is("21: at most 200", 0, post.leastLimit(200));
        NoisePost parts = Posts.withLevels(60, 0, 0, 0, 70, 40, 40, 40, 60);
        // two up to the limit 39, three up to 59, one up to 69
        check.is("21: at most 2", 0, parts.leastLimit(2));
        check.is("21: at most 1", 60, parts.leastLimit(1));
        check.is("21: at most 0", 70, parts.leastLimit(0));
        parts.set(6, 4);
        check.is("21: by the gap", 0, parts.leastLimit(1));
        parts.set(6, 3);
        parts.correct(4, 70, 30);
        // minutes 4 to 6 are vetoed: two up to 39 (0 and 7), two up to 59 (0 and 8)
        check.is("21: without vetoed minutes", 60, parts.leastLimit(1));
        parts.set(4, 31);
        parts.correct(0, 0, 0);
        check.is("21: one up to the limit 39, two, one", 0, parts.leastLimit(1));
        check.is("21: the settings stay", 50, parts.setting(0));
        NoisePost vetoed = Posts.withLevels(60, 0, 0, 0, 70, 0, 0, 0, 0);
        check.is("21: two", 60, vetoed.leastLimit(1));
        vetoed.correct(4, 70, 15);
        check.is("21: a vetoed minute is above with no limit", 0, vetoed.leastLimit(1));
        check.is("21: a vetoed minute is above with no limit", 60, vetoed.leastLimit(0));
        check.is("21: no minutes", 0, new NoisePost().leastLimit(0));
        check.is("21: the limit 140", 140, Posts.withLevels(140).leastLimit(0));
    }

    private void promise21RestLimitStays() {
        NoisePost post = Posts.withLevels(65, 65, 0, 0, 0, 80);
        post.set(3, 2);
        post.set(2, 0);
        check.is("21: rest is above, whatever the limit", -1, post.leastLimit(0));
        check.is("21: the other one goes", 80, post.leastLimit(1));
        check.is("21: both stay", 0, post.leastLimit(2));
        post.set(1, 65);
        check.is("21: rest is not above", 80, post.leastLimit(0));
        check.is("21: rest is not above", 0, post.leastLimit(1));
    }

    private void promise21Throws() {
        NoisePost post = Posts.withLevels(60);
        for (int exceedances : new int[] {-1, 201, Integer.MAX_VALUE, Integer.MIN_VALUE}) {
            check.isThrown("21: leastLimit(" + exceedances + ")", Posts.ARGUMENT, () -> post.leastLimit(exceedances));
        }
    }

    private void promise22AboveIn() {
        NoisePost post = new NoisePost();
        // 125, 234, 329, 412, 485, 549, 605, 654, 697, 734
        check.is("22: of a new post", 10, post.aboveIn(100));
        check.is("22: never", -1, post.aboveIn(60));
        check.is("22: only in rest", 41, post.aboveIn(70));
        NoisePost still = Posts.quick(0);
        still.set(9, 20);
        check.is("22: the arm stands still at 0", -1, still.aboveIn(1));
        check.is("22: the arm moves from 0 by 1", 1, still.aboveIn(2));
        NoisePost single = Posts.withLevels(60);
        single.set(9, 10);
        check.is("22: from the place in the only minute", 60, single.minute(0, 3));
        check.is("22: from the place in the only minute", 6, single.aboveIn(110));
        post.tell(100, 0, 4);
        check.is("22: from the arm's place", 6, post.aboveIn(100));
        post.tell(100, 0, 6);
        check.is("22: above already", 1, post.aboveIn(100));
        check.is("22: above already, and a little less", 1, post.aboveIn(71));
        check.is("22: as high as the limit", -1, Posts.withLevels(60, 60).aboveIn(50));
        check.is("22: at once", 1, Posts.withLevels(60, 60).aboveIn(51));
        check.is("22: nothing is changed", 10, post.count(0));
        check.is("22: nothing is saved", 2, post.count(10));
    }

    private void promise22RestAndVetoes() {
        NoisePost post = Posts.withLevels(60);
        post.set(3, 20);
        post.set(1, 30);
        check.is("22: until the rest", 40, post.aboveIn(40));
        post.set(2, 0);
        check.is("22: in the rest", 1, post.aboveIn(40));
        post.set(3, 1);
        check.is("22: in the next hour", 60, post.aboveIn(40));
        post.tell(60, 20, 1);
        for (int calm = 0; calm <= 20; calm++) {
            post.set(5, calm);
            check.is("22: behind the calm " + calm, calm + 1, post.aboveIn(60));
        }
        post.tell(60, 14, 7);
        check.is("22: the last veto lies back", 14, post.aboveIn(60));
        post.set(4, 1);
        check.is("22: the last wind", 21, post.aboveIn(60));
        post.set(4, 41);
        check.is("22: no veto", 1, post.aboveIn(60));
        NoisePost full = Posts.quick(50);
        for (int i = 0; i < 4; i++) {
            full.tell(0, 0, 50);
        }
        full.set(9, 5);
        // 120, 216, 292, 353, 402, 441, 472, 497, 517
        check.is("22: behind 200 minutes", 9, full.aboveIn(60));
    }

    private void promise22AtMost100() {
        NoisePost post = Posts.quick(140);
        post.set(1, 30);
        post.set(3, 1);
        post.tell(0, 0, 1);
        for (int begin : new int[] {1, 5, 40, 41, 59}) {
            post.set(2, begin);
            check.is("22: in the minute " + begin, begin, post.aboveIn(40));
        }
        post.set(3, 0);
        post.set(0, 100);
        post.set(9, 50);
        check.is("22: still below", -1, post.aboveIn(100));
        NoisePost slow = new NoisePost();
        slow.set(3, 0);
        slow.set(9, 50);
        int[] answers = firstAndLast(slow);
        check.is("22: the 100th minute", 100, answers[0]);
        check.is("22: not the 101st", -1, answers[1]);
    }

    /** What is answered where the arm gets above a limit in the 100th minute, and where in the 101st. */
    private static int[] firstAndLast(NoisePost post) {
        int[] answers = {-2, -2};
        for (int level = 1; level <= 140; level++) {
            int place = 0;
            int[] places = new int[102];
            for (int minute = 1; minute <= 101; minute++) {
                place += (10 * level - place) / 50;
                places[minute] = place;
            }
            for (int limit = 0; limit <= 140; limit++) {
                if (places[100] > 10 * limit && places[99] <= 10 * limit) {
                    post.set(0, limit);
                    answers[0] = post.aboveIn(level);
                }
                if (places[101] > 10 * limit && places[100] <= 10 * limit) {
                    post.set(0, limit);
                    answers[1] = post.aboveIn(level);
                }
            }
        }
        return answers;
    }

    private void promise22Throws() {
        NoisePost post = new NoisePost();
        for (int level : new int[] {-1, 141, Integer.MAX_VALUE, Integer.MIN_VALUE}) {
            check.isThrown("22: aboveIn(" + level + ")", Posts.ARGUMENT, () -> post.aboveIn(level));
        }
    }

    private void promise23Share() {
        check.is("23: no minutes", 0.0, new NoisePost().share());
        NoisePost post = Posts.withLevels(60, 0, 0);
        check.is("23: a third", 1.0 / 3.0, post.share());
        post.correct(1, 60, 0);
        check.is("23: two thirds", 2.0 / 3.0, post.share());
        post.correct(2, 60, 0);
        check.is("23: all", 1.0, post.share());
        post.correct(2, 60, 20);
        check.is("23: of the counted ones", 1.0, post.share());
        post.correct(0, 0, 0);
        check.is("23: of the counted ones", 0.5, post.share());
        post.set(0, 140);
        check.is("23: none is above", 0.0, post.share());
        post.correct(0, 0, 20);
        check.is("23: none is counted", 0.0, post.share());
    }

    private void promise24DigestOfANewPost() {
        long due = Posts.hash(2161, 0, 0, 0, 0, 0, 0, 0, 0, 0, -1, 0, 0);
        due = Posts.hash(due, 70, 60, 40, 20, 15, 2, 3, 10, 2, 8);
        due = Posts.hash(due, 0, 0, 0, 0, 0, 0, 0, 0, 0, 0, 0, 0, 0, 0, 0);
        due = Posts.hash(due, -1, -1, -1, -1, -1, 0, 16, 0, 0);
        check.is("24: a new post", due, new NoisePost().digest());
        NoisePost post = new NoisePost();
        post.append('~');
        post.append('!');
        long written = Posts.hash(2161, 0, 0, 0, 0, 0, 0, 0, 0, 0, -1, 0, 0);
        written = Posts.hash(written, 70, 60, 40, 20, 15, 2, 3, 10, 2, 8);
        written = Posts.hash(written, 0, 0, 0, 0, 0, 0, 0, 0, 0, 0, 0, 0, 0, 0, 0);
        written = Posts.hash(written, -1, -1, -1, -1, -1, 0, 16, 0, 2, 126, 33);
        check.is("24: the buffer", written, post.digest());
    }

    private void promise24Digest() {
        NoisePost post = busy();
        Posts.write(post, "5@3;x");
        long due = Posts.hash(Posts.hashBeforeShare(WhatWouldBeTest::busy), Double.doubleToLongBits(post.share()));
        due = Posts.hash(due, 5, '5', '@', '3', ';', 'x');
        check.is("24: a busy post", due, post.digest());
        check.is("24: asked again", due, post.digest());
        check.is("24: there are exceedances", 3, post.count(5));
        check.is("24: there are matches", 3, post.count(7));
    }

    private void promise24DigestOfEachShare() {
        for (int counted = 1; counted <= 200; counted++) {
            for (int above : new int[] {0, 1, counted / 3 + 1, counted / 2, counted - 1, counted}) {
                digestOfShare(counted, Math.min(above, counted));
            }
        }
    }

    private void digestOfShare(int counted, int above) {
        NoisePost post = withAbove(counted, above);
        double share = (double) above / counted;
        check.is("24: the share", share, post.share());
        long before = Posts.hashBeforeShare(() -> withAbove(counted, above));
        long due = Posts.hash(before, Double.doubleToLongBits(share), 0);
        check.is("24: " + above + " of " + counted, due, post.digest());
    }

    private static NoisePost withAbove(int counted, int above) {
        NoisePost post = Posts.quick(50);
        tellAll(post, 60, above);
        tellAll(post, 0, counted - above);
        return post;
    }

    private static void tellAll(NoisePost post, int level, int minutes) {
        for (int left = minutes; left > 0; left -= 60) {
            post.tell(level, 0, Math.min(left, 60));
        }
    }
}
