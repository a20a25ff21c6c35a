/**
 * The document's head, from 'Minutes' to where a minute is above: each sentence that names a boundary.
 */
final class MinutesEdgesTest extends Edges {
    public static void main(String[] args) {
        MinutesEdgesTest test = new MinutesEdgesTest();
        test.minutes();
        test.settings();
        test.arms();
        test.vetoes();
        test.rest();
        test.above();
        test.check.end("MinutesEdgesTest");
    }

    // ---- Minutes

    private void minutes() {
        divisionsAreTruncated();
        atMost200Minutes();
        numberedFrom0();
        levelAndWindOfAMinute();
    }

    private void divisionsAreTruncated() {
        sentence = "All numbers are integers; divisions are truncated toward 0.";
        NoisePost post = new NoisePost();
        post.set(8, 3);
        post.set(9, 7);
        post.tell(2, 0, 1);
        post.tell(1, 0, 1);
        post.tell(0, 0, 1);
        // 20/3 is 6, 4/3 is 1, -7/3 is -2; 20/7 is 2, 8/7 is 1, -3/7 is 0
        row(post, 2, 6, 7, 5);
        row(post, 3, 2, 3, 3);
    }

    private void atMost200Minutes() {
        sentence = "There are at most 200 minutes.";
        NoisePost post = new NoisePost();
        is(60, post.tell(1, 0, 60));
        is(120, post.tell(2, 0, 60));
        is(180, post.tell(3, 0, 60));
        is(199, post.tell(4, 0, 19));
        isThrown(Posts.STATE, () -> post.tell(5, 0, 2));
        isThrown(Posts.STATE, () -> post.tell(5, 0, 60));
        is(200, post.tell(6, 0, 1));
        isThrown(Posts.STATE, () -> post.tell(7, 0, 1));
        is(6, post.minute(199, 0));
        Posts.write(post, "8");
        isThrown(Posts.STATE, post::load);
        is(199, post.forget(1));
        is(200, post.load());
        is(8, post.minute(199, 0));
        is(200, post.count(0));
    }

    private void numberedFrom0() {
        sentence = "numbered from 0 in the order in which they were told";
        NoisePost post = new NoisePost();
        isThrown(Posts.INDEX, () -> post.minute(0, 0));
        post.tell(10, 0, 1);
        post.tell(20, 0, 2);
        row(post, 0, 10, 20, 20);
        isThrown(Posts.INDEX, () -> post.minute(-1, 0));
        isThrown(Posts.INDEX, () -> post.minute(3, 0));
    }

    private void levelAndWindOfAMinute() {
        sentence = "A minute has a level, 0 to 140, and a wind, 0 to 40.";
        NoisePost post = new NoisePost();
        post.tell(0, 40, 1);
        post.tell(140, 0, 1);
        Posts.write(post, "0@40;140@0");
        post.load();
        post.tell(7, 7, 2);
        post.correct(4, 0, 40);
        post.correct(5, 140, 0);
        row(post, 0, 0, 140, 0, 140, 0, 140);
        row(post, 1, 40, 0, 40, 0, 40, 0);
        int[][] wrong = {{-1, 0}, {141, 0}, {0, -1}, {0, 41}};
        for (int[] one : wrong) {
            isThrown(Posts.ARGUMENT, () -> post.tell(one[0], one[1], 1));
            isThrown(Posts.ARGUMENT, () -> post.correct(0, one[0], one[1]));
        }
        for (String text : new String[] {"141", "0@41"}) {
            Posts.write(post, text);
            isThrown(Posts.ARGUMENT, post::load);
            post.clearBuffer();
        }
        is(6, post.count(0));
    }

    // ---- settings

    private void settings() {
        rangesOfSettings();
        oneSettingAfterTheOther();
        bySettingsAsTheyAreNow();
    }

    private void rangesOfSettings() {
        String[] told = {"0: the limit, 0 to 140, at first 70", "1: the limit of rest hours, 0 to 140, at first 60",
            "2: the first minute of rest, 0 to 59, at first 40",
            "3: how many minutes of rest there are, 0 to 60, at first 20", "4: the wind limit, 1 to 41, at first 15",
            "5: the calm, 0 to 20, at first 2", "6: the gap, 1 to 20, at first 3",
            "7: the patience, 0 to 60, at first 10", "8: the time of the fast arm, 1 to 20, at first 2",
            "9: the time of the slow arm, 1 to 50, at first 8"};
        int[][] ranges = {{0, 140, 70}, {0, 140, 60}, {0, 59, 40}, {0, 60, 20}, {1, 41, 15}, {0, 20, 2}, {1, 20, 3},
            {0, 60, 10}, {1, 20, 2}, {1, 50, 8}};
        for (int setting = 0; setting <= 9; setting++) {
            sentence = told[setting];
            range(setting, ranges[setting][0], ranges[setting][1], ranges[setting][2]);
        }
    }

    private void range(int setting, int least, int most, int atFirst) {
        NoisePost post = new NoisePost();
        is(atFirst, post.setting(setting));
        isThrown(Posts.ARGUMENT, () -> post.set(setting, least - 1));
        isThrown(Posts.ARGUMENT, () -> post.set(setting, most + 1));
        isThrown(Posts.ARGUMENT, () -> post.ifSet(setting, least - 1, 0));
        isThrown(Posts.ARGUMENT, () -> post.ifSet(setting, most + 1, 0));
        is(atFirst, post.setting(setting));
        is(0, post.ifSet(setting, least, 0));
        is(0, post.ifSet(setting, most, 0));
        is(atFirst, post.set(setting, least));
        is(least, post.set(setting, most));
        is(most, post.setting(setting));
    }

    private void oneSettingAfterTheOther() {
        sentence = "There are these settings: 0 to 9";
        NoisePost post = new NoisePost();
        for (int setting : new int[] {-1, 10}) {
            isThrown(Posts.INDEX, () -> post.setting(setting));
            isThrown(Posts.INDEX, () -> post.set(setting, 10));
            isThrown(Posts.INDEX, () -> post.ifSet(setting, 10, 0));
        }
        for (int setting = 0; setting <= 9; setting++) {
            post.set(setting, 10 + setting);
        }
        for (int setting = 0; setting <= 9; setting++) {
            is(10 + setting, post.setting(setting));
        }
    }

    private void bySettingsAsTheyAreNow() {
        sentence = "always by the settings as they are now, for all minutes";
        NoisePost post = Posts.withLevels(60, 0, 60);
        post.complain(3);
        post.set(0, 60);
        is(0, post.count(5));
        matches(post, -1);
        post.set(0, 59);
        is(1, post.count(5));
        matches(post, 0);
        is(20, post.exceedance(0, 4));
        post.set(6, 1);
        is(2, post.count(5));
        row(post, 7, 0, -1, 1);
        post.set(9, 2);
        row(post, 3, 300, 150, 375);
        post.undo();
        row(post, 3, 600, 0, 600);
        is(2, post.count(5));
    }

    // ---- Arms

    private void arms() {
        inFrontOfMinute0();
        shortestAndLongestTimes();
        standsStill();
    }

    private void inFrontOfMinute0() {
        sentence = "in front of minute 0 it stands at 0";
        NoisePost post = new NoisePost();
        post.tell(140, 0, 1);
        row(post, 2, 700);
        row(post, 3, 175);
        post.tell(8, 0, 1);
        post.forget(1);
        row(post, 2, 40);
        row(post, 3, 10);
    }

    private void shortestAndLongestTimes() {
        sentence = "In each minute it moves by (10 * level - its place) / its time.";
        NoisePost post = new NoisePost();
        post.tell(100, 0, 2);
        post.tell(40, 0, 2);
        post.set(8, 1);
        post.set(9, 1);
        row(post, 2, 1000, 1000, 400, 400);
        row(post, 3, 1000, 1000, 400, 400);
        post.set(8, 20);
        // 1000/20, 950/20 (47), 303/20 (15), 288/20 (14)
        row(post, 2, 50, 97, 112, 126);
        row(post, 3, 1000, 1000, 400, 400);
        post.set(8, 1);
        post.set(9, 50);
        // 1000/50, 980/50 (19), 361/50 (7), 354/50 (7)
        row(post, 2, 1000, 1000, 400, 400);
        row(post, 3, 20, 39, 46, 53);
    }

    private void standsStill() {
        sentence = "(So it can stand still beside the level.)";
        NoisePost post = new NoisePost();
        post.set(8, 20);
        post.set(9, 50);
        post.tell(1, 0, 5);
        row(post, 2, 0, 0, 0, 0, 0);
        row(post, 3, 0, 0, 0, 0, 0);
        post.tell(2, 0, 1);
        is(1, post.minute(5, 2));
        is(0, post.minute(5, 3));
        post.tell(5, 0, 2);
        is(5, post.minute(7, 2));
        is(1, post.minute(7, 3));
        post.tell(0, 0, 60);
        is(5, post.minute(67, 2));
        is(1, post.minute(67, 3));
    }

    // ---- Vetoes

    private void vetoes() {
        ownWind();
        asManyAsTheCalm();
        beforeMinute0();
        theOthersAreCounted();
    }

    private void ownWind() {
        sentence = "A minute is vetoed if its wind is at least the wind limit";
        for (int limit = 1; limit <= 41; limit++) {
            NoisePost post = Posts.withLevels(60, 60);
            post.set(4, limit);
            post.correct(1, 60, limit - 1);
            row(post, 6, 0, 0);
            is(0, post.count(2));
            if (limit <= 40) {
                post.correct(1, 60, limit);
                row(post, 6, 0, 1);
                is(1, post.count(2));
            }
        }
    }

    private void asManyAsTheCalm() {
        sentence = "or that of one of the minutes just before it, as many as the calm tells";
        for (int calm = 0; calm <= 20; calm++) {
            NoisePost post = Posts.quick(50);
            post.set(5, calm);
            post.tell(60, 0, 1);
            post.tell(60, 15, 1);
            post.tell(60, 14, 25);
            for (int minute = 0; minute < 27; minute++) {
                int due = minute == 1 ? 1 : minute > 1 && minute <= 1 + calm ? 2 : 0;
                check.is(sentence + ": calm " + calm + ", minute " + minute, due, post.minute(minute, 6));
            }
            is(1 + calm, post.count(2));
        }
    }

    private void beforeMinute0() {
        sentence = "the minutes just before it: none are before minute 0";
        NoisePost post = Posts.quick(50);
        post.set(5, 20);
        post.tell(60, 0, 3);
        row(post, 6, 0, 0, 0);
        post.correct(0, 60, 15);
        row(post, 6, 1, 2, 2);
        post.forget(1);
        row(post, 6, 0, 0);
    }

    private void theOthersAreCounted() {
        sentence = "The other minutes are counted.";
        NoisePost post = new NoisePost();
        post.tell(0, 0, 3);
        is(3, post.count(1));
        is(0, post.count(2));
        post.correct(0, 0, 40);
        is(0, post.count(1));
        is(3, post.count(2));
        post.set(5, 1);
        is(1, post.count(1));
        is(2, post.count(2));
    }

    // ---- rest and limits

    private void rest() {
        restRoundTheHour();
        noRestAndNothingElse();
        itsLimitThen();
    }

    private void restRoundTheHour() {
        sentence = "(m - first minute of rest), modulo 60 and not below 0, is less than the number of minutes of rest";
        int[][] settings = {{40, 20}, {41, 20}, {0, 1}, {0, 59}, {1, 59}, {59, 1}, {59, 2}, {59, 59}, {30, 45},
            {1, 60}};
        for (int[] one : settings) {
            NoisePost post = new NoisePost();
            post.set(2, one[0]);
            post.set(3, one[1]);
            boolean[] hour = new boolean[60];
            for (int i = 0; i < one[1]; i++) {
                hour[(one[0] + i) % 60] = true;
            }
            for (int i = 0; i < 4; i++) {
                post.tell(0, 0, 50);
            }
            for (int minute = 0; minute < 200; minute++) {
                check.is(sentence + ": " + one[1] + " from " + one[0] + ", minute " + minute,
                    hour[minute % 60] ? 1 : 0, post.minute(minute, 5));
            }
        }
    }

    private void noRestAndNothingElse() {
        sentence = "how many minutes of rest there are, 0 to 60";
        for (int first = 0; first <= 59; first++) {
            NoisePost post = new NoisePost();
            post.set(2, first);
            post.tell(0, 0, 60);
            is(20, post.count(3));
            post.set(3, 0);
            is(0, post.count(3));
            post.set(3, 1);
            is(1, post.count(3));
            is(1, post.minute(first, 5));
            post.set(3, 59);
            is(59, post.count(3));
            is(0, post.minute((first + 59) % 60, 5));
            post.set(3, 60);
            is(60, post.count(3));
        }
    }

    private void itsLimitThen() {
        sentence = "Its limit is the limit of rest hours then, otherwise the limit.";
        NoisePost post = new NoisePost();
        post.set(2, 59);
        post.set(3, 2);
        post.set(0, 140);
        post.set(1, 0);
        post.tell(0, 0, 60);
        post.tell(0, 0, 2);
        is(0, post.minute(0, 4));
        is(140, post.minute(1, 4));
        is(140, post.minute(58, 4));
        is(0, post.minute(59, 4));
        is(0, post.minute(60, 4));
        is(140, post.minute(61, 4));
    }

    // ---- above

    private void above() {
        sentence = "A minute is above if it is counted, and the slow arm stands higher than 10 * its limit in it.";
        NoisePost post = Posts.withLevels(60, 60);
        post.set(0, 60);
        is(0, post.count(4));
        post.set(0, 59);
        is(2, post.count(4));
        post.set(9, 2);
        // slow arm: 300, 450
        post.set(0, 45);
        is(0, post.count(4));
        post.set(0, 44);
        is(1, post.count(4));
        row(post, 6, 3, 0);
        post.correct(1, 60, 15);
        is(0, post.count(4));
        NoisePost rest = Posts.withLevels(60, 60);
        rest.set(2, 1);
        rest.set(3, 1);
        row(rest, 6, 0, 3);
        rest.set(1, 59);
        row(rest, 6, 0, 0);
        NoisePost ends = Posts.withLevels(0, 140);
        ends.set(0, 0);
        row(ends, 6, 3, 0);
        ends.set(0, 140);
        row(ends, 6, 3, 3);
    }
}
