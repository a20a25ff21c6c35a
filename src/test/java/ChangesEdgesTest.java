/**
 * Promises 1 to 12: each sentence that names a boundary.
 */
final class ChangesEdgesTest extends Edges {
    public static void main(String[] args) {
        ChangesEdgesTest test = new ChangesEdgesTest();
        test.promise1();
        test.promise2();
        test.promise3();
        test.promise4();
        test.promise5();
        test.promise6();
        test.promise7();
        test.promise8();
        test.promise9();
        test.promise10();
        test.promise11();
        test.promise12();
        test.check.end("ChangesEdgesTest");
    }

    // ---- changes

    private void promise1() {
        sentence = "1: Creates a post without minutes and complaints, with the settings as told, and an empty buffer.";
        NoisePost post = new NoisePost();
        is(0, post.count(0));
        is(0, post.count(6));
        is(0, post.count(10));
        for (int setting = 0; setting <= 9; setting++) {
            is(Posts.SETTING_AT_FIRST[setting], post.setting(setting));
        }
        is(0, post.clearBuffer());
        isThrown(Posts.INDEX, () -> post.minute(0, 0));
        isThrown(Posts.INDEX, () -> post.complaint(0, 0));
        isThrown(Posts.INDEX, () -> post.exceedance(0, 0));
        isThrown(Posts.STATE, post::undo);
        isThrown(Posts.ARGUMENT, post::load);
    }

    private void promise2() {
        sentence = "2: setting: 0 to 9";
        isAnsweredWithin(0, 9, setting -> new NoisePost().set(setting, 10));
        sentence = "2: Returns the previous value.";
        NoisePost post = new NoisePost();
        is(70, post.set(0, 0));
        is(0, post.set(0, 140));
        is(140, post.set(0, 140));
        is(140, post.set(0, 1));
        sentence = "2: Throws IndexOutOfBoundsException if there is no such setting";
        isThrownOutside(0, 9, Posts.INDEX, setting -> post.set(setting, 10));
        sentence = "2: Throws IllegalArgumentException if value is out of range";
        for (int setting = 0; setting <= 9; setting++) {
            int number = setting;
            isThrownOutside(Posts.SETTING_LEAST[setting], Posts.SETTING_MOST[setting], Posts.ARGUMENT,
                value -> post.set(number, value));
        }
        is(1, post.setting(0));
        is(4, post.count(10));
    }

    private void promise3() {
        sentence = "3: level: 0 to 140; wind: 0 to 40; minutes: 1 to 60";
        isAnsweredWithin(0, 140, level -> new NoisePost().tell(level, 0, 1));
        isAnsweredWithin(0, 40, wind -> new NoisePost().tell(0, wind, 1));
        isAnsweredWithin(1, 60, minutes -> new NoisePost().tell(0, 0, minutes));
        sentence = "3: Returns how many minutes there are then.";
        NoisePost post = new NoisePost();
        is(1, post.tell(0, 0, 1));
        is(61, post.tell(140, 40, 60));
        sentence = "3: Throws IllegalArgumentException if an argument is out of range";
        isThrownOutside(0, 140, Posts.ARGUMENT, level -> post.tell(level, 0, 1));
        isThrownOutside(0, 40, Posts.ARGUMENT, wind -> post.tell(0, wind, 1));
        isThrownOutside(1, 60, Posts.ARGUMENT, minutes -> post.tell(0, 0, minutes));
        is(61, post.count(0));
        sentence = "3: Throws IllegalStateException if there would be more than 200 minutes";
        is(121, post.tell(0, 0, 60));
        is(141, post.tell(0, 0, 20));
        isThrown(Posts.STATE, () -> post.tell(9, 9, 60));
        is(141, post.count(0));
        is(200, post.tell(8, 8, 59));
        isThrown(Posts.STATE, () -> post.tell(9, 9, 1));
        is(200, post.count(0));
        is(8, post.minute(199, 0));
        is(8, post.minute(141, 1));
        is(0, post.minute(140, 1));
    }

    private void promise4() {
        sentence = "4: minute: its number; level: 0 to 140; wind: 0 to 40";
        NoisePost post = Posts.withLevels(1, 2, 3);
        isAnsweredWithin(0, 2, minute -> post.correct(minute, 4, 1));
        isAnsweredWithin(0, 140, level -> post.correct(0, level, 0));
        isAnsweredWithin(0, 40, wind -> post.correct(2, 0, wind));
        is(140, post.minute(0, 0));
        is(4, post.minute(1, 0));
        is(40, post.minute(2, 1));
        sentence = "4: Returns how many exceedances there are then.";
        NoisePost told = Posts.withLevels(60, 0, 0, 0, 60);
        is(2, told.correct(4, 51, 0));
        is(1, told.correct(4, 50, 0));
        is(0, told.correct(0, 60, 15));
        is(1, told.correct(0, 51, 14));
        sentence = "4: Throws IndexOutOfBoundsException if there is no such minute";
        isThrown(Posts.INDEX, () -> new NoisePost().correct(0, 0, 0));
        isThrownOutside(0, 2, Posts.INDEX, minute -> post.correct(minute, 0, 0));
        sentence = "4: Throws IllegalArgumentException if level or wind is out of range";
        isThrownOutside(0, 140, Posts.ARGUMENT, level -> post.correct(0, level, 0));
        isThrownOutside(0, 40, Posts.ARGUMENT, wind -> post.correct(0, 0, wind));
        is(140, post.minute(0, 0));
        is(0, post.minute(0, 1));
    }

    private void promise5() {
        forgetsTheFirstMinutes();
        minutesInComplaintsNotBelow0();
        asIfTheForgottenHadNotBeen();
        sentence = "5: minutes: how many, 1 to the number of minutes";
        isAnsweredWithin(1, 5, minutes -> Posts.withLevels(1, 2, 3, 4, 5).forget(minutes));
        sentence = "5: Returns how many are left.";
        is(4, Posts.withLevels(1, 2, 3, 4, 5).forget(1));
        is(1, Posts.withLevels(1, 2, 3, 4, 5).forget(4));
        is(0, Posts.withLevels(1, 2, 3, 4, 5).forget(5));
        is(0, Posts.withLevels(1).forget(1));
        sentence = "5: Throws IllegalArgumentException if minutes is out of range";
        NoisePost post = Posts.withLevels(1, 2, 3, 4, 5);
        isThrownOutside(1, 5, Posts.ARGUMENT, post::forget);
        is(5, post.count(0));
        post.forget(5);
        isThrown(Posts.ARGUMENT, () -> post.forget(1));
        isThrown(Posts.ARGUMENT, () -> post.forget(0));
        isThrown(Posts.ARGUMENT, () -> new NoisePost().forget(1));
    }

    private void forgetsTheFirstMinutes() {
        sentence = "5: Forgets the first minutes; the numbers of the others decrease";
        NoisePost post = new NoisePost();
        for (int minute = 0; minute < 200; minute++) {
            post.tell(minute % 141, minute % 41, 1);
        }
        is(140, post.forget(60));
        is(60, post.minute(0, 0));
        is(19, post.minute(0, 1));
        is(199 % 141, post.minute(139, 0));
        is(199 % 41, post.minute(139, 1));
        isThrown(Posts.INDEX, () -> post.minute(140, 0));
        is(1, post.forget(139));
        is(199 % 141, post.minute(0, 0));
        is(0, post.forget(1));
        is(1, post.tell(5, 0, 1));
        is(5, post.minute(0, 0));
    }

    private void minutesInComplaintsNotBelow0() {
        sentence = "5: also those of minutes in complaints (not below 0)";
        NoisePost post = Posts.withLevels(0, 0, 0, 60, 0, 0, 0, 60);
        for (int minute : new int[] {0, 2, 3, 4, 5, 300}) {
            post.complain(minute);
        }
        post.forget(4);
        int[] due = {0, 0, 0, 0, 1, 296};
        for (int complaint = 0; complaint < due.length; complaint++) {
            is(due[complaint], post.complaint(complaint, 0));
            is(-1, post.complaint(complaint, 1));
        }
        post.forget(3);
        is(0, post.complaint(4, 0));
        is(293, post.complaint(5, 0));
        // All of minute 0 then: the lowest number is the first.
        is(0, post.complaint(0, 1));
        is(-1, post.complaint(4, 1));
        is(6, post.count(6));
    }

    private void asIfTheForgottenHadNotBeen() {
        sentence = "5: All is told by the new numbers then: arms, vetoes and rest, as if the forgotten "
            + "minutes had not been.";
        for (int forgotten = 1; forgotten <= 60; forgotten++) {
            int first = forgotten;
            is(Posts.shown(() -> withoutTheFirst(0)), Posts.shown(() -> withoutTheFirst(first)));
            NoisePost fresh = withoutTheFirst(0);
            NoisePost post = withoutTheFirst(first);
            is(fresh.aboveIn(80), post.aboveIn(80));
            is(fresh.leastLimit(1), post.leastLimit(1));
            is(fresh.percentLevel(50), post.percentLevel(50));
        }
        NoisePost windy = Posts.withLevels(60, 60, 60, 60);
        windy.correct(0, 60, 15);
        is(2, windy.minute(2, 6));
        windy.forget(1);
        is(0, windy.minute(0, 6));
        is(0, windy.minute(1, 6));
    }

    /** A post whose first minutes, so many, were forgotten. */
    private static NoisePost withoutTheFirst(int minutes) {
        NoisePost post = new NoisePost();
        if (minutes > 0) {
            post.tell(130, 40, minutes);
        }
        post.tell(85, 0, 50);
        post.complain(minutes + 20);
        if (minutes > 0) {
            post.forget(minutes);
        }
        return post;
    }

    private void promise6() {
        sentence = "6: minute: 0 to 300";
        isAnsweredWithin(0, 300, minute -> new NoisePost().complain(minute));
        sentence = "6: Returns its number.";
        NoisePost post = new NoisePost();
        for (int number = 0; number < 20; number++) {
            is(number, post.complain(300 - number));
        }
        sentence = "6: Throws IllegalArgumentException if minute is out of range";
        isThrownOutside(0, 300, Posts.ARGUMENT, minute -> new NoisePost().complain(minute));
        sentence = "6: Throws IllegalStateException if there are 20 complaints";
        isThrown(Posts.STATE, () -> post.complain(0));
        isThrown(Posts.STATE, () -> post.complain(300));
        is(20, post.count(6));
        is(281, post.complaint(19, 0));
        post.withdraw(0);
        is(19, post.complain(0));
        isThrown(Posts.STATE, () -> post.complain(0));
    }

    private void promise7() {
        sentence = "7: Withdraws a complaint; the numbers of the later ones decrease by 1.";
        NoisePost full = new NoisePost();
        for (int number = 0; number < 20; number++) {
            full.complain(100 + number);
        }
        full.withdraw(0);
        is(101, full.complaint(0, 0));
        is(119, full.complaint(18, 0));
        full.withdraw(18);
        is(118, full.complaint(17, 0));
        full.withdraw(5);
        is(105, full.complaint(4, 0));
        is(107, full.complaint(5, 0));
        is(17, full.count(6));
        isThrown(Posts.INDEX, () -> full.complaint(17, 0));
        sentence = "7: Returns the exceedance to which it was matched, NONE if it was not.";
        NoisePost post = Posts.withLevels(60, 0, 0, 0, 70);
        post.complain(4);
        post.complain(4);
        post.complain(4);
        is(-1, post.withdraw(2));
        is(1, post.withdraw(0));
        is(1, post.withdraw(0));
        post.complain(0);
        is(0, post.withdraw(0));
        sentence = "7: Throws IndexOutOfBoundsException if there is no such complaint";
        isThrown(Posts.INDEX, () -> post.withdraw(0));
        post.complain(1);
        post.complain(2);
        isThrownOutside(0, 1, Posts.INDEX, post::withdraw);
        is(2, post.count(6));
    }

    // ---- texts

    private void promise8() {
        sentence = "8: code: the character code, 33 to 126";
        isAnsweredWithin(33, 126, code -> new NoisePost().append(code));
        sentence = "8: Returns the new length of the buffer.";
        NoisePost post = new NoisePost();
        for (int length = 1; length <= 59; length++) {
            is(length, post.append(33 + length));
        }
        sentence = "8: Throws IllegalArgumentException if code is not 33 to 126";
        isThrownOutside(33, 126, Posts.ARGUMENT, post::append);
        is(60, post.append(126));
        sentence = "8: Throws IllegalStateException if the buffer has 60 characters";
        isThrown(Posts.STATE, () -> post.append(33));
        isThrown(Posts.STATE, () -> post.append(126));
        is(60, post.clearBuffer());
        is(1, post.append(33));
    }

    private void promise9() {
        sentence = "9: Clears the buffer. Returns the length that it had.";
        for (int length = 0; length <= 60; length++) {
            NoisePost post = new NoisePost();
            Posts.write(post, "7".repeat(length));
            is(length, post.clearBuffer());
            is(0, post.clearBuffer());
            is(0, post.firstError());
            isThrown(Posts.ARGUMENT, post::load);
        }
    }

    private void promise10() {
        sentence = "10: Returns the index of the first character that is a syntax error";
        String right = "7;".repeat(30);
        for (int index = 0; index < 60; index++) {
            NoisePost post = new NoisePost();
            Posts.write(post, right.substring(0, index) + "x" + "x".repeat(59 - index));
            is(index, post.firstError());
        }
        sentence = "10: the length of the buffer if there is none";
        for (int length = 0; length <= 60; length++) {
            NoisePost post = new NoisePost();
            Posts.write(post, right.substring(0, length));
            is(length, post.firstError());
        }
    }

    private void promise11() {
        loadTellsAndClears();
        sentence = "11: Throws IllegalArgumentException if the buffer is not a complete text";
        String[] texts = {"", "7;", "7@", "7*", "7*1", "7@1*1", "x", "7x", ";", "7;;8", "141", "8;7*1"};
        for (String text : texts) {
            NoisePost post = new NoisePost();
            post.tell(3, 3, 1);
            Posts.write(post, text);
            check.isThrown(sentence + ": " + text, Posts.ARGUMENT, post::load);
            is(1, post.count(0));
            is(1, post.count(10));
            is(text.length(), post.clearBuffer());
        }
        sentence = "11: Throws IllegalStateException if there would be more than 200 minutes";
        NoisePost post = new NoisePost();
        Posts.write(post, "1*60;2*60;3*60;4*21");
        isThrown(Posts.STATE, post::load);
        is(0, post.count(0));
        is(0, post.count(10));
        is(19, post.clearBuffer());
        Posts.write(post, "1*60;2*60;3*60;4*20");
        is(200, post.load());
        is(4, post.minute(199, 0));
        post.append('7');
        isThrown(Posts.STATE, post::load);
        is(200, post.count(0));
        is(1, post.clearBuffer());
    }

    private void loadTellsAndClears() {
        sentence = "11: Tells the minutes in the buffer, and clears the buffer. Returns how many minutes "
            + "there are then.";
        NoisePost post = new NoisePost();
        Posts.write(post, "0");
        is(1, post.load());
        is(0, post.clearBuffer());
        Posts.write(post, "140@40*60;0*2;9@1");
        is(64, post.load());
        int[][] due = {{0, 0, 0}, {1, 140, 40}, {60, 140, 40}, {61, 0, 0}, {62, 0, 0}, {63, 9, 1}};
        for (int[] one : due) {
            is(one[1], post.minute(one[0], 0));
            is(one[2], post.minute(one[0], 1));
        }
        is(1, post.append('7'));
        is(2, post.count(10));
        is(1, post.undo());
        is(1, post.count(0));
    }

    private void promise12() {
        sentence = "12: Throws IllegalStateException if there is none";
        NoisePost post = new NoisePost();
        isThrown(Posts.STATE, post::undo);
        sentence = "12: Restores the latest saved state, and drops it. Returns how many saved states are left.";
        for (int many = 1; many <= 8; many++) {
            for (int limit = 1; limit <= many; limit++) {
                post.set(0, limit);
            }
            for (int left = many - 1; left >= 0; left--) {
                is(left, post.undo());
                is(left, post.count(10));
                is(left > 0 ? left : 70, post.setting(0));
            }
            isThrown(Posts.STATE, post::undo);
            is(70, post.setting(0));
        }
    }
}
