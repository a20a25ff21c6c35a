/**
 * Promises 13 to 19: each sentence that names a boundary.
 */
final class WhatThereIsEdgesTest extends Edges {
    public static void main(String[] args) {
        WhatThereIsEdgesTest test = new WhatThereIsEdgesTest();
        test.promise13();
        test.promise14();
        test.promise15();
        test.promise16();
        test.promise17();
        test.promise18();
        test.promise19();
        test.check.end("WhatThereIsEdgesTest");
    }

    // ---- what there is

    private void promise13() {
        sentence = "13: what: 0 to 7";
        NoisePost post = Posts.withLevels(60, 0, 0);
        isAnsweredWithin(0, 7, what -> post.minute(0, what));
        whyItIsNotAbove();
        theExceedanceToWhichItBelongs();
        sentence = "13: Throws IndexOutOfBoundsException if there is no such minute";
        isThrown(Posts.INDEX, () -> new NoisePost().minute(0, 0));
        isThrownOutside(0, 2, Posts.INDEX, minute -> post.minute(minute, 0));
        sentence = "13: Throws IllegalArgumentException if what is not 0 to 7";
        isThrownOutside(0, 7, Posts.ARGUMENT, what -> post.minute(2, what));
    }

    private void whyItIsNotAbove() {
        sentence = "13: 6: why it is not above: 0: it is above; otherwise the first of these that holds";
        NoisePost post = Posts.withLevels(50, 51, 0, 0, 0, 0, 51, 51);
        post.correct(2, 0, 15);
        post.correct(3, 0, 15);
        post.correct(6, 51, 40);
        // The minute 3 is vetoed both ways and not higher, the minute 4 by one before and not higher.
        int[] due = {3, 0, 1, 1, 2, 2, 1, 2};
        for (int minute = 0; minute < due.length; minute++) {
            is(due[minute], post.minute(minute, 6));
        }
    }

    private void theExceedanceToWhichItBelongs() {
        sentence = "13: 7: the exceedance to which it belongs (from its beginning to its end), NONE if "
            + "it belongs to none";
        NoisePost post = Posts.withLevels(50, 51, 50, 50, 51, 50, 50, 50, 51, 50);
        int[] due = {-1, 0, 0, 0, 0, -1, -1, -1, 1, -1};
        for (int minute = 0; minute < due.length; minute++) {
            is(due[minute], post.minute(minute, 7));
        }
        post.set(0, 51);
        is(-1, post.minute(1, 7));
        post.set(0, 0);
        is(0, post.minute(0, 7));
        is(0, post.minute(9, 7));
    }

    private void promise14() {
        sentence = "14: what: 0 to 5";
        NoisePost post = Posts.withLevels(60, 0, 0, 0, 70, 55);
        isAnsweredWithin(0, 5, what -> post.exceedance(1, what));
        int[][] due = {{0, 0, 1, 600, 100, -1}, {4, 5, 2, 700, 250, -1}};
        for (int what = 0; what <= 5; what++) {
            is(due[0][what], post.exceedance(0, what));
            is(due[1][what], post.exceedance(1, what));
        }
        sentence = "14: 5: the complaint that is matched to it, NONE if there is none";
        post.complain(300);
        post.complain(5);
        is(-1, post.exceedance(0, 5));
        is(1, post.exceedance(1, 5));
        post.withdraw(0);
        is(0, post.exceedance(1, 5));
        post.withdraw(0);
        is(-1, post.exceedance(1, 5));
        sentence = "14: Throws IndexOutOfBoundsException if there is no such exceedance";
        isThrown(Posts.INDEX, () -> new NoisePost().exceedance(0, 0));
        isThrownOutside(0, 1, Posts.INDEX, exceedance -> post.exceedance(exceedance, 0));
        sentence = "14: Throws IllegalArgumentException if what is not 0 to 5";
        isThrownOutside(0, 5, Posts.ARGUMENT, what -> post.exceedance(1, what));
        sentence = "14: Throws IndexOutOfBoundsException if there is no such exceedance any more";
        post.set(0, 60);
        isThrown(Posts.INDEX, () -> post.exceedance(1, 0));
        is(4, post.exceedance(0, 0));
        post.set(0, 70);
        isThrown(Posts.INDEX, () -> post.exceedance(0, 0));
    }

    private void promise15() {
        sentence = "15: what: 0: its minute; 1: the exceedance to which it is matched, NONE if it is not";
        NoisePost post = Posts.withLevels(60);
        post.complain(300);
        post.complain(0);
        is(300, post.complaint(0, 0));
        is(-1, post.complaint(0, 1));
        is(0, post.complaint(1, 0));
        is(0, post.complaint(1, 1));
        sentence = "15: Throws IndexOutOfBoundsException if there is no such complaint";
        isThrown(Posts.INDEX, () -> new NoisePost().complaint(0, 0));
        isThrownOutside(0, 1, Posts.INDEX, complaint -> post.complaint(complaint, 0));
        sentence = "15: Throws IllegalArgumentException if what is not 0 or 1";
        isThrownOutside(0, 1, Posts.ARGUMENT, what -> post.complaint(1, what));
    }

    private void promise16() {
        sentence = "16: level: 0 to 140";
        NoisePost post = new NoisePost();
        isAnsweredWithin(0, 140, post::levelCount);
        sentence = "16: Returns the level count.";
        is(0, post.levelCount(0));
        is(0, post.levelCount(140));
        post.set(8, 1);
        post.tell(140, 0, 60);
        is(60, post.levelCount(0));
        is(60, post.levelCount(140));
        post.tell(0, 0, 60);
        is(120, post.levelCount(0));
        is(60, post.levelCount(1));
        post.tell(139, 40, 60);
        is(120, post.levelCount(0));
        is(60, post.levelCount(139));
        sentence = "16: Throws IllegalArgumentException if level is out of range";
        isThrownOutside(0, 140, Posts.ARGUMENT, post::levelCount);
    }

    private void promise17() {
        sentence = "17: percent: 1 to 100";
        NoisePost post = Posts.withLevels(140, 100, 50, 0);
        isAnsweredWithin(1, 100, post::percentLevel);
        sentence = "17: Returns a percent level.";
        int[][] due = {{1, 140}, {25, 140}, {26, 100}, {50, 100}, {51, 50}, {75, 50}, {76, 0}, {100, 0}};
        for (int[] one : due) {
            is(one[1], post.percentLevel(one[0]));
        }
        sentence = "17: NONE if there are no counted minutes";
        is(-1, new NoisePost().percentLevel(1));
        is(-1, new NoisePost().percentLevel(100));
        post.set(4, 1);
        post.correct(0, 140, 1);
        is(0, post.percentLevel(1));
        post.correct(3, 140, 1);
        is(-1, post.percentLevel(1));
        is(-1, post.percentLevel(100));
        sentence = "17: Throws IllegalArgumentException if percent is out of range";
        isThrownOutside(1, 100, Posts.ARGUMENT, post::percentLevel);
        isThrownOutside(1, 100, Posts.ARGUMENT, new NoisePost()::percentLevel);
    }

    private void promise18() {
        sentence = "18: what: 0 to 11";
        NoisePost post = new NoisePost();
        isAnsweredWithin(0, 11, post::count);
        sentence = "18: Throws IllegalArgumentException if what is not 0 to 11";
        isThrownOutside(0, 11, Posts.ARGUMENT, post::count);
        minutesThatAreCounted();
        theGreatestWeight();
        goesOnBehindTheLastMinute();
        savedStates();
    }

    private void minutesThatAreCounted() {
        sentence = "18: 0: minutes; 1: counted minutes; 2: vetoed minutes; 3: minutes of rest; 4: "
            + "minutes that are above";
        NoisePost post = new NoisePost();
        for (int what = 0; what <= 4; what++) {
            is(0, post.count(what));
        }
        post.set(0, 0);
        post.set(1, 0);
        for (int i = 0; i < 4; i++) {
            post.tell(100, 0, 50);
        }
        int[] all = {200, 200, 0, 60, 200};
        for (int what = 0; what <= 4; what++) {
            is(all[what], post.count(what));
        }
        post.correct(0, 100, 40);
        post.correct(199, 100, 40);
        int[] some = {200, 196, 4, 60, 196};
        for (int what = 0; what <= 4; what++) {
            is(some[what], post.count(what));
        }
        sentence = "18: 5: exceedances; 6: complaints; 7: matched complaints; 8: the sum of all weights";
        int[] none = {1, 0, 0};
        for (int what = 5; what <= 7; what++) {
            is(none[what - 5], post.count(what));
        }
        // Minutes 0 to 2 and 199 are vetoed; both limits are 0.
        int sum = 0;
        for (int minute = 3; minute < 199; minute++) {
            sum += post.minute(minute, 3);
        }
        is(sum, post.count(8));
        is(sum, post.exceedance(0, 4));
        for (int i = 0; i < 20; i++) {
            post.complain(200);
        }
        is(20, post.count(6));
        is(1, post.count(7));
        post.set(0, 140);
        post.set(1, 140);
        is(0, post.count(5));
        is(0, post.count(7));
        is(0, post.count(8));
    }

    private void theGreatestWeight() {
        sentence = "18: 9: the exceedance with the greatest weight, of several the lowest one, NONE if there is none";
        NoisePost post = Posts.withLevels(50);
        is(-1, post.count(9));
        is(-1, new NoisePost().count(9));
        post.tell(51, 0, 1);
        is(0, post.count(9));
        post.tell(0, 0, 3);
        post.tell(51, 0, 1);
        is(0, post.count(9));
        post.correct(5, 52, 0);
        is(1, post.count(9));
        post.tell(0, 0, 3);
        post.tell(51, 0, 2);
        is(1, post.count(9));
        post.tell(51, 0, 1);
        is(2, post.count(9));
        is(60, post.count(8));
    }

    private void goesOnBehindTheLastMinute() {
        sentence = "18: 11: 1 if an exceedance goes on behind the last minute, else 0";
        is(0, new NoisePost().count(11));
        is(0, Posts.withLevels(50).count(11));
        for (int gap = 1; gap <= 20; gap++) {
            NoisePost post = Posts.withLevels(51);
            post.set(6, gap);
            for (int behind = 0; behind <= 21; behind++) {
                is(behind < gap ? 1 : 0, post.count(11));
                post.tell(50, 0, 1);
            }
        }
    }

    private void savedStates() {
        sentence = "18: 10: saved states";
        NoisePost post = new NoisePost();
        for (int changes = 0; changes <= 10; changes++) {
            is(Math.min(8, changes), post.count(10));
            post.tell(1, 0, 1);
        }
        post.undo();
        is(7, post.count(10));
    }

    private void promise19() {
        sentence = "19: setting: 0 to 9. Returns its value.";
        NoisePost post = new NoisePost();
        for (int setting = 0; setting <= 9; setting++) {
            is(Posts.SETTING_AT_FIRST[setting], post.setting(setting));
            post.set(setting, Posts.SETTING_LEAST[setting]);
            is(Posts.SETTING_LEAST[setting], post.setting(setting));
            post.set(setting, Posts.SETTING_MOST[setting]);
            is(Posts.SETTING_MOST[setting], post.setting(setting));
        }
        sentence = "19: Throws IndexOutOfBoundsException if there is no such setting";
        isThrownOutside(0, 9, Posts.INDEX, post::setting);
    }
}
