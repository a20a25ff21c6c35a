import java.util.function.Supplier;

/**
 * Promises 20 to 24: each sentence that names a boundary.
 */
final class WhatWouldBeEdgesTest extends Edges {
    public static void main(String[] args) {
        WhatWouldBeEdgesTest test = new WhatWouldBeEdgesTest();
        test.promise20();
        test.promise21();
        test.promise22();
        test.promise23();
        test.promise24();
        test.check.end("WhatWouldBeEdgesTest");
    }

    // ---- what would be

    private static NoisePost busy() {
        NoisePost post = new NoisePost();
        post.tell(100, 14, 30);
        post.tell(20, 15, 15);
        post.tell(90, 0, 40);
        post.tell(30, 1, 30);
        post.tell(120, 0, 8);
        for (int minute = 20; minute <= 140; minute += 40) {
            post.complain(minute);
        }
        return post;
    }

    private void promise20() {
        sentence = "20: what: 0 to 9, as in the method count";
        NoisePost post = busy();
        for (int setting = 0; setting <= 9; setting++) {
            asCountWith(post, setting, Posts.SETTING_LEAST[setting]);
            asCountWith(post, setting, Posts.SETTING_AT_FIRST[setting]);
            asCountWith(post, setting, Posts.SETTING_MOST[setting]);
        }
        is(0, new NoisePost().ifSet(0, 0, 0));
        is(-1, new NoisePost().ifSet(0, 0, 9));
        sentence = "20: Throws IndexOutOfBoundsException if there is no such setting";
        isThrownOutside(0, 9, Posts.INDEX, setting -> post.ifSet(setting, 10, 0));
        sentence = "20: Throws IllegalArgumentException if value or what is out of range";
        for (int setting = 0; setting <= 9; setting++) {
            int number = setting;
            isThrownOutside(Posts.SETTING_LEAST[setting], Posts.SETTING_MOST[setting], Posts.ARGUMENT,
                value -> post.ifSet(number, value, 0));
        }
        isThrownOutside(0, 9, Posts.ARGUMENT, what -> post.ifSet(0, 10, what));
        isThrown(Posts.ARGUMENT, () -> post.ifSet(0, 10, 11));
        sentence = "20: nothing is changed";
        is(busy().digest(), post.digest());
    }

    private void asCountWith(NoisePost post, int setting, int value) {
        NoisePost other = busy();
        other.set(setting, value);
        for (int what = 0; what <= 9; what++) {
            check.is(sentence + ": ifSet(" + setting + ", " + value + ", " + what + ")",
                other.count(what), post.ifSet(setting, value, what));
        }
    }

    private void promise21() {
        sentence = "21: exceedances: 0 to 200";
        NoisePost post = Posts.withLevels(60, 0, 0, 0, 140, 0, 0, 0, 70);
        isAnsweredWithin(0, 200, post::leastLimit);
        sentence = "21: Finds the least limit with which there would be at most so many exceedances";
        is(140, post.leastLimit(0));
        is(70, post.leastLimit(1));
        is(60, post.leastLimit(2));
        is(0, post.leastLimit(3));
        is(0, post.leastLimit(200));
        is(0, new NoisePost().leastLimit(0));
        NoisePost falling = Posts.withLevels(20, 10, 10, 10, 30, 10, 10, 10, 20);
        // With a limit below 10 all is one exceedance; with 10 there are three, with 20 one again.
        is(3, falling.ifSet(0, 10, 5));
        is(0, falling.leastLimit(1));
        is(30, falling.leastLimit(0));
        falling.set(3, 1);
        falling.set(2, 0);
        falling.set(1, 0);
        falling.correct(1, 0, 0);
        falling.correct(2, 0, 0);
        falling.correct(3, 0, 0);
        // The minute 0 stays above; the others are one up to 9, two up to 19, one up to 29.
        is(0, falling.leastLimit(2));
        is(3, falling.ifSet(0, 19, 5));
        is(2, falling.ifSet(0, 20, 5));
        is(30, falling.leastLimit(1));
        is(50, falling.setting(0));
        sentence = "21: (the limit of rest hours stays) Returns the least value of setting 0; NONE if there is none.";
        is(-1, falling.leastLimit(0));
        falling.set(1, 19);
        is(-1, falling.leastLimit(0));
        falling.set(1, 20);
        is(30, falling.leastLimit(0));
        is(140, Posts.withLevels(140).leastLimit(0));
        leastLimitIsAsIfItWereSet();
        sentence = "21: Throws IllegalArgumentException if exceedances is out of range";
        isThrownOutside(0, 200, Posts.ARGUMENT, post::leastLimit);
        isThrownOutside(0, 200, Posts.ARGUMENT, new NoisePost()::leastLimit);
    }

    private void leastLimitIsAsIfItWereSet() {
        sentence = "21: the least limit with which there would be at most so many, as ifSet tells it";
        for (int gap = 1; gap <= 6; gap++) {
            NoisePost post = Posts.withLevels(60, 0, 50, 0, 0, 40, 0, 0, 0, 55, 55, 0, 0, 0, 0, 70, 0, 0, 0, 0, 0, 65);
            post.set(5, gap % 3);
            post.correct(10, 99, 15);
            post.set(6, gap);
            for (int most = 0; most <= 8; most++) {
                int limit = 0;
                while (post.ifSet(0, limit, 5) > most) {
                    limit++;
                }
                check.is(sentence + ": at most " + most + " with the gap " + gap, limit, post.leastLimit(most));
            }
        }
    }

    private void promise22() {
        sentence = "22: level: 0 to 140";
        NoisePost post = Posts.withLevels(60);
        isAnsweredWithin(0, 140, post::aboveIn);
        sentence = "22: a level without wind";
        post.set(4, 1);
        is(1, post.aboveIn(51));
        is(-1, post.aboveIn(50));
        behindTheLastMinute();
        untilTheFirstThatIsAbove();
        atMost100FurtherMinutes();
        the200MinutesDoNotMatter();
        sentence = "22: Throws IllegalArgumentException if level is out of range";
        isThrownOutside(0, 140, Posts.ARGUMENT, post::aboveIn);
        isThrownOutside(0, 140, Posts.ARGUMENT, new NoisePost()::aboveIn);
    }

    private void behindTheLastMinute() {
        sentence = "22: how long a level must last behind the last minute: its veto, its rest and its arm";
        for (int calm = 0; calm <= 20; calm++) {
            NoisePost post = Posts.withLevels(60, 60, 60);
            post.set(5, calm);
            post.correct(1, 60, 15);
            is(Math.max(1, calm), post.aboveIn(60));
            post.correct(2, 60, 15);
            is(calm + 1, post.aboveIn(60));
        }
        for (int first = 0; first <= 59; first++) {
            NoisePost post = Posts.withLevels(0, 0, 0);
            post.set(2, first);
            post.set(3, 1);
            post.set(1, 0);
            // The next minute is minute 3; the next one of this number of the hour is minute first, or first + 60.
            int due = first >= 3 ? first - 2 : first + 58;
            check.is(sentence + ": rest in minute " + first, due, post.aboveIn(40));
        }
        NoisePost post = new NoisePost();
        post.set(3, 0);
        post.set(9, 2);
        // 600, 900
        is(2, post.aboveIn(120));
        post.tell(120, 0, 1);
        is(1, post.aboveIn(120));
        // 600, 750
        is(1, post.aboveIn(90));
        // 600 + 50, 650 + 25, 687, 693, 696, 698, 699, 699
        is(-1, post.aboveIn(70));
    }

    private void untilTheFirstThatIsAbove() {
        sentence = "22: of which the last one is the first that is above";
        for (int level = 71; level <= 140; level++) {
            NoisePost post = new NoisePost();
            post.tell(50, 16, 2);
            int due = post.aboveIn(level);
            if (due > 1) {
                post.tell(level, 0, due - 1);
            }
            is(0, post.count(4));
            post.tell(level, 0, 1);
            is(1, post.count(4));
            is(0, post.minute(post.count(0) - 1, 6));
        }
        NoisePost never = new NoisePost();
        never.set(0, 140);
        never.set(1, 140);
        is(-1, never.aboveIn(140));
        is(-1, never.aboveIn(0));
        NoisePost falling = Posts.withLevels(140);
        falling.set(9, 2);
        falling.tell(140, 0, 1);
        // 700, 1050; then 525 and 263 of level 0
        is(1, falling.aboveIn(0));
        falling.set(0, 52);
        is(1, falling.aboveIn(0));
        falling.set(0, 53);
        is(-1, falling.aboveIn(0));
    }

    private void atMost100FurtherMinutes() {
        sentence = "22: Returns the number of further minutes with this level, 1 to 100";
        NoisePost post = new NoisePost();
        post.set(9, 50);
        post.set(3, 0);
        int place = 0;
        int[] places = new int[103];
        for (int minute = 1; minute <= 102; minute++) {
            place += (1400 - place) / 50;
            places[minute] = place;
        }
        for (int limit = 0; limit <= 140; limit++) {
            post.set(0, limit);
            int due = -1;
            for (int minute = 100; minute >= 1; minute--) {
                due = places[minute] > 10 * limit ? minute : due;
            }
            check.is(sentence + ": limit " + limit, due, post.aboveIn(140));
        }
        sentence = "22: NONE if there is none, the 101st among them";
        // The arm needs 101 minutes or 100: it begins at a place of its own.
        int of100 = 0;
        int of101 = 0;
        for (int level = 1; level <= 140; level++) {
            for (int limit = 0; limit < level; limit++) {
                int needs = minutesToGetAbove(10 * limit, level);
                if (needs == 100 || needs == 101) {
                    post.set(0, limit);
                    is(needs == 100 ? 100 : -1, post.aboveIn(level));
                    of100 += needs == 100 ? 1 : 0;
                    of101 += needs == 101 ? 1 : 0;
                }
            }
        }
        is(true, of100 > 0 && of101 > 0);
    }

    /** How many minutes an arm of time 50 takes from 0 until it stands higher; 0 if that takes more than 101. */
    private static int minutesToGetAbove(int limit, int level) {
        int place = 0;
        for (int minute = 1; minute <= 101; minute++) {
            place += (10 * level - place) / 50;
            if (place > limit) {
                return minute;
            }
        }
        return 0;
    }

    private void the200MinutesDoNotMatter() {
        sentence = "22: (the limit of 200 minutes does not matter)";
        NoisePost post = Posts.quick(139);
        for (int i = 0; i < 4; i++) {
            post.tell(0, 0, 50);
        }
        is(1, post.aboveIn(140));
        post.set(9, 20);
        post.set(0, 100);
        NoisePost fresh = Posts.quick(100);
        fresh.set(9, 20);
        is(fresh.aboveIn(140), post.aboveIn(140));
        post.set(1, 0);
        post.set(3, 1);
        post.set(2, 19);
        // The minute 259 is the sixtieth behind minute 199.
        is(60, post.aboveIn(2));
        post.set(2, 20);
        is(1, post.aboveIn(2));
        is(200, post.count(0));
    }

    private void promise23() {
        sentence = "23: the number of minutes that are above, as a double, divided by the number of counted minutes";
        for (int counted = 1; counted <= 20; counted++) {
            for (int above = 0; above <= counted; above++) {
                NoisePost post = Posts.quick(50);
                for (int minute = 0; minute < counted; minute++) {
                    post.tell(minute < above ? 51 : 50, 0, 1);
                }
                is((double) above / (double) counted, post.share());
            }
        }
        sentence = "23: 0.0 if there are none";
        is(0.0, new NoisePost().share());
        NoisePost vetoed = Posts.withLevels(60, 60);
        is(1.0, vetoed.share());
        vetoed.correct(0, 60, 15);
        is(0.0, vetoed.share());
        vetoed.set(5, 0);
        is(1.0, vetoed.share());
    }

    private void promise24() {
        ofANewPost();
        ofAllInTheirOrder();
        ofTheWholeState();
    }

    private void ofANewPost() {
        sentence = "24: The hash starts at 2161; 31 * hash + v, in long arithmetic with overflow";
        long due = hash(2161, 0, 0, 0, 0, 0, 0, 0, 0, 0, -1, 0, 0, 70, 60, 40, 20, 15, 2, 3, 10, 2, 8);
        due = hash(due, 0, 0, 0, 0, 0, 0, 0, 0, 0, 0, 0, 0, 0, 0, 0, -1, -1, -1, -1, -1, 0, 16, 0);
        is(hash(due, 0), new NoisePost().digest());
        sentence = "24: the length of the buffer and each of its character codes";
        NoisePost written = new NoisePost();
        for (int length = 1; length <= 60; length++) {
            written.append(33 + length);
            long withLength = hash(due, length);
            for (int code = 34; code <= 33 + length; code++) {
                withLength = hash(withLength, code);
            }
            is(withLength, written.digest());
        }
    }

    private void ofAllInTheirOrder() {
        sentence = "24: The values are: count(0) to count(11); .. and each of its character codes.";
        isHashOfAll(WhatWouldBeEdgesTest::busy);
        isHashOfAll(WhatWouldBeEdgesTest::full);
        // A hundred levels: each percent level is another one.
        isHashOfAll(WhatWouldBeEdgesTest::hundredLevels);
        // Three exceedances: leastLimit of 0, 1 and 2 are different ones.
        isHashOfAll(() -> Posts.withLevels(60, 0, 0, 0, 70, 0, 0, 0, 80));
        // The level 80 is the first that gets above, or the last that does not.
        isHashOfAll(() -> Posts.quick(79));
        isHashOfAll(() -> Posts.quick(80));
        isHashOfAll(WhatWouldBeEdgesTest::allVetoed);
        for (int minutes = 0; minutes <= 7; minutes++) {
            int above = minutes;
            isHashOfAll(() -> withAboveOf7(above));
        }
    }

    private static NoisePost full() {
        NoisePost post = new NoisePost();
        post.set(6, 1);
        post.set(5, 0);
        for (int i = 0; i < 66; i++) {
            post.tell(140 - i, 0, 2);
            post.tell(140 - i, 20, 1);
        }
        post.tell(0, 15, 2);
        for (int i = 0; i < 20; i++) {
            post.complain(200 - 10 * i);
        }
        return post;
    }

    private static NoisePost hundredLevels() {
        NoisePost post = Posts.quick(140);
        for (int level = 100; level >= 1; level--) {
            post.tell(level, 0, 1);
        }
        return post;
    }

    private static NoisePost allVetoed() {
        NoisePost post = Posts.withLevels(60, 60, 60);
        post.correct(0, 60, 15);
        return post;
    }

    private static NoisePost withAboveOf7(int above) {
        NoisePost post = Posts.quick(50);
        for (int minute = 0; minute < 7; minute++) {
            post.tell(minute < above ? 51 : 50, 0, 1);
        }
        return post;
    }

    private void isHashOfAll(Supplier<NoisePost> maker) {
        long due = Posts.hashBeforeShare(maker);
        NoisePost post = maker.get();
        due = hash(due, Double.doubleToLongBits(post.share()));
        is(hash(due, 0), post.digest());
        post.append('~');
        post.append('!');
        is(hash(due, 2, '~', '!'), post.digest());
    }

    private void ofTheWholeState() {
        sentence = "24: a hash of the whole state";
        NoisePost post = busy();
        post.undo();
        long before = post.digest();
        is(before, post.digest());
        for (int setting = 0; setting <= 9; setting++) {
            post.set(setting, Posts.SETTING_LEAST[setting]);
            is(false, before == post.digest());
            post.undo();
            is(before, post.digest());
        }
        post.append('5');
        is(false, before == post.digest());
        post.clearBuffer();
        is(before, post.digest());
    }

    private static long hash(long before, long... values) {
        return Posts.hash(before, values);
    }
}
