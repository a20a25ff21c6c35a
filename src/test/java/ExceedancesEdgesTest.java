/**
 * The document's head, 'Exceedances', 'Complaints' and 'Counts': each sentence that names a boundary.
 */
final class ExceedancesEdgesTest extends Edges {
    public static void main(String[] args) {
        ExceedancesEdgesTest test = new ExceedancesEdgesTest();
        test.exceedances();
        test.complaints();
        test.counts();
        test.check.end("ExceedancesEdgesTest");
    }

    // ---- Exceedances

    private void exceedances() {
        begins();
        goesOnUntilTheGap();
        vetoedOnesCountAmongThese();
        endsWithTheLastAbove();
        goesOnAtTheLastMinute();
        inTheOrderOfBeginnings();
        peak();
        weight();
    }

    private void begins() {
        sentence = "An exceedance begins with a minute that is above, if none goes on.";
        NoisePost post = Posts.withLevels(50, 50);
        is(0, post.count(5));
        isThrown(Posts.INDEX, () -> post.exceedance(0, 0));
        post.tell(51, 0, 2);
        is(1, post.count(5));
        is(2, post.exceedance(0, 0));
        row(post, 7, -1, -1, 0, 0);
        is(0, Posts.withLevels(51).exceedance(0, 0));
    }

    private void goesOnUntilTheGap() {
        sentence = "It goes on until so many minutes as the gap tells, one after the other, are not above";
        for (int gap = 1; gap <= 20; gap++) {
            NoisePost post = Posts.quick(50);
            post.set(6, gap);
            post.tell(60, 0, 1);
            // Between two that are above, one less than the gap, twice: not one after the other.
            for (int i = 0; i < 2 && gap > 1; i++) {
                post.tell(0, 0, gap - 1);
                post.tell(60, 0, 1);
            }
            is(1, post.count(5));
            is(gap > 1 ? 2 * gap : 0, post.exceedance(0, 1));
            post.tell(0, 0, gap);
            post.tell(60, 0, 1);
            is(2, post.count(5));
            is(gap > 1 ? 2 * gap : 0, post.exceedance(0, 1));
            is(gap > 1 ? 3 * gap + 1 : 2, post.exceedance(1, 0));
        }
    }

    private void vetoedOnesCountAmongThese() {
        sentence = "vetoed ones count among these";
        NoisePost post = Posts.withLevels(60, 60, 60, 60, 60);
        post.correct(1, 60, 15);
        // minutes 1 to 3 are vetoed
        is(2, post.count(5));
        row(post, 7, 0, -1, -1, -1, 1);
        post.set(5, 1);
        is(1, post.count(5));
        row(post, 7, 0, 0, 0, 0, 0);
        is(3, post.exceedance(0, 2));
        post.correct(3, 0, 0);
        is(2, post.count(5));
    }

    private void endsWithTheLastAbove() {
        sentence = "It ends with the last minute that is above.";
        NoisePost post = Posts.withLevels(60, 0, 60, 0, 0, 0, 0, 60);
        is(2, post.exceedance(0, 1));
        is(2, post.exceedance(0, 2));
        row(post, 7, 0, 0, 0, -1, -1, -1, -1, 1);
        post.correct(2, 50, 0);
        is(0, post.exceedance(0, 1));
        row(post, 7, 0, -1, -1, -1, -1, -1, -1, 1);
    }

    private void goesOnAtTheLastMinute() {
        sentence = "(One that goes on at the last minute ends, for all that is told, with the last "
            + "minute that is above so far.)";
        NoisePost post = Posts.withLevels(60, 70, 0, 0);
        post.complain(12);
        post.complain(11);
        is(1, post.count(11));
        is(1, post.exceedance(0, 1));
        row(post, 7, 0, 0, -1, -1);
        matches(post, -1, 0);
        post.tell(60, 0, 1);
        is(1, post.count(5));
        is(4, post.exceedance(0, 1));
        row(post, 7, 0, 0, 0, 0, 0);
        matches(post, -1, 0);
        post.withdraw(1);
        matches(post, 0);
        post.undo();
        post.undo();
        post.tell(0, 0, 1);
        post.tell(60, 0, 1);
        is(2, post.count(5));
        is(1, post.exceedance(0, 1));
        is(5, post.exceedance(1, 0));
        is(5, post.exceedance(1, 1));
    }

    private void inTheOrderOfBeginnings() {
        sentence = "Exceedances are numbered from 0 in the order of their beginnings.";
        NoisePost post = Posts.quick(50);
        post.set(6, 1);
        post.set(5, 0);
        for (int pair = 0; pair < 100; pair++) {
            post.tell(140 - pair / 2, 0, 1);
            post.tell(0, 0, 1);
        }
        is(100, post.count(5));
        for (int exceedance = 0; exceedance < 100; exceedance++) {
            is(2 * exceedance, post.exceedance(exceedance, 0));
            is(exceedance, post.minute(2 * exceedance, 7));
            is(-1, post.minute(2 * exceedance + 1, 7));
        }
        isThrown(Posts.INDEX, () -> post.exceedance(-1, 0));
        isThrown(Posts.INDEX, () -> post.exceedance(100, 0));
    }

    private void peak() {
        sentence = "The peak of an exceedance is the highest place of the fast arm in its minutes that are above";
        NoisePost post = Posts.withLevels(60, 50, 55);
        is(600, post.exceedance(0, 3));
        post.set(8, 2);
        // fast arm: 300, 400, 475
        is(475, post.exceedance(0, 3));
        post.correct(1, 140, 15);
        post.set(5, 0);
        // fast arm: 300, 850 (vetoed), 700
        is(700, post.exceedance(0, 3));
        post.correct(2, 50, 0);
        is(300, post.exceedance(0, 3));
        NoisePost within = Posts.withLevels(70, 0, 60);
        within.set(9, 2);
        within.set(0, 31);
        // slow arm: 350, 175, 387; fast arm: 700, 0, 600
        is(700, within.exceedance(0, 3));
        within.set(0, 36);
        is(600, within.exceedance(0, 3));
        within.set(5, 0);
        within.correct(0, 140, 0);
        within.correct(1, 130, 15);
        within.correct(2, 0, 0);
        // slow arm: 700, 1000 (vetoed), 500; fast arm: 1400, 1300, 0
        is(1400, within.exceedance(0, 3));
        within.correct(0, 70, 0);
        // slow arm: 350, 825 (vetoed), 413; fast arm: 700, 1300, 0
        is(2, within.exceedance(0, 0));
        is(0, within.exceedance(0, 3));
    }

    private void weight() {
        sentence = "its weight is the sum of the slow arm's places minus 10 * the limits over these minutes";
        NoisePost post = Posts.withLevels(60, 40, 51);
        is(110, post.exceedance(0, 4));
        post.set(2, 2);
        post.set(3, 1);
        post.set(1, 30);
        is(310, post.exceedance(0, 4));
        post.set(9, 2);
        // slow arm: 300, 350, 430; only the minute of rest is above
        is(130, post.exceedance(0, 4));
        is(130, post.count(8));
    }

    // ---- Complaints

    private void complaints() {
        atMost20Complaints();
        minuteOfAComplaint();
        inTheOrderOfMinutes();
        thatIsNotMatchedYet();
        beginsAtItsMinuteOrBefore();
        endsWithinThePatience();
        theGreatestPeak();
        ofSeveralTheLowestNumber();
    }

    private void atMost20Complaints() {
        sentence = "There are at most 20 complaints, numbered from 0 in the order in which they were made";
        NoisePost post = new NoisePost();
        isThrown(Posts.INDEX, () -> post.complaint(0, 0));
        for (int number = 0; number < 20; number++) {
            is(number, post.complain(100 - number));
        }
        isThrown(Posts.STATE, () -> post.complain(0));
        is(20, post.count(6));
        for (int number = 0; number < 20; number++) {
            is(100 - number, post.complaint(number, 0));
        }
        isThrown(Posts.INDEX, () -> post.complaint(20, 0));
        isThrown(Posts.INDEX, () -> post.complaint(-1, 0));
        post.withdraw(19);
        is(19, post.complain(7));
        isThrown(Posts.STATE, () -> post.complain(0));
    }

    private void minuteOfAComplaint() {
        sentence = "a complaint has a minute, 0 to 300";
        NoisePost post = new NoisePost();
        isThrown(Posts.ARGUMENT, () -> post.complain(-1));
        isThrown(Posts.ARGUMENT, () -> post.complain(301));
        is(0, post.complain(300));
        is(1, post.complain(0));
        is(300, post.complaint(0, 0));
        is(0, post.complaint(1, 0));
    }

    private void inTheOrderOfMinutes() {
        sentence = "matched in the order of their minutes, those of the same minute by their numbers";
        NoisePost post = Posts.withLevels(60);
        post.complain(2);
        post.complain(1);
        matches(post, -1, 0);
        post.complain(1);
        matches(post, -1, 0, -1);
        post.complain(0);
        matches(post, -1, -1, -1, 0);
        is(3, post.exceedance(0, 5));
        is(1, post.count(7));
        NoisePost full = Posts.withLevels(60);
        for (int number = 0; number < 20; number++) {
            full.complain(5);
        }
        matches(full, 0, -1, -1, -1, -1, -1, -1, -1, -1, -1, -1, -1, -1, -1, -1, -1, -1, -1, -1, -1);
        full.undo();
        full.complain(4);
        matches(full, -1, -1, -1, -1, -1, -1, -1, -1, -1, -1, -1, -1, -1, -1, -1, -1, -1, -1, -1, 0);
    }

    private void thatIsNotMatchedYet() {
        sentence = "to the exceedance that is not matched yet";
        NoisePost post = Posts.withLevels(70, 0, 0, 0, 60);
        post.complain(4);
        post.complain(4);
        post.complain(4);
        matches(post, 0, 1, -1);
        is(2, post.count(7));
        is(0, post.exceedance(0, 5));
        is(1, post.exceedance(1, 5));
        post.withdraw(0);
        matches(post, 0, 1);
        post.set(0, 70);
        matches(post, -1, -1);
        is(0, post.count(7));
        sentence = "to the exceedance: one that was there before is none";
        NoisePost gone = Posts.withLevels(60);
        gone.set(0, 60);
        gone.complain(0);
        matches(gone, -1);
        gone.undo();
        gone.undo();
        gone.forget(1);
        gone.complain(0);
        matches(gone, -1);
    }

    private void beginsAtItsMinuteOrBefore() {
        sentence = "begins at the complaint's minute or before it";
        NoisePost post = Posts.withLevels(0, 60, 60);
        post.complain(0);
        matches(post, -1);
        post.complain(1);
        matches(post, -1, 0);
        NoisePost first = Posts.withLevels(60);
        first.complain(0);
        matches(first, 0);
    }

    private void endsWithinThePatience() {
        sentence = "has its end at least at the complaint's minute minus the patience";
        for (int patience = 0; patience <= 60; patience++) {
            NoisePost post = Posts.withLevels(0, 60, 60, 60);
            post.set(7, patience);
            post.complain(3 + patience + 1);
            matches(post, -1);
            post.complain(3 + patience);
            matches(post, -1, 0);
        }
        NoisePost last = Posts.quick(50);
        last.set(7, 60);
        last.tell(0, 0, 60);
        last.tell(0, 0, 60);
        last.tell(60, 0, 60);
        last.tell(60, 0, 20);
        last.complain(260);
        matches(last, -1);
        last.complain(259);
        matches(last, -1, 0);
    }

    private void theGreatestPeak() {
        sentence = "of several the one with the greatest peak";
        NoisePost post = Posts.withLevels(60, 60, 60, 0, 0, 0, 61, 0, 0, 0, 55);
        post.complain(10);
        matches(post, 1);
        post.correct(10, 62, 0);
        matches(post, 2);
        post.correct(1, 63, 0);
        matches(post, 0);
    }

    private void ofSeveralTheLowestNumber() {
        sentence = "of several the lowest number";
        NoisePost post = Posts.withLevels(55, 0, 0, 0, 60, 0, 0, 0, 60);
        post.complain(8);
        matches(post, 1);
        post.correct(0, 60, 0);
        matches(post, 0);
        post.complain(8);
        post.complain(8);
        matches(post, 0, 1, 2);
    }

    // ---- Counts

    private void counts() {
        levelCount();
        percentLevel();
    }

    private void levelCount() {
        sentence = "the number of counted minutes in which the fast arm stands at 10 * l or higher";
        NoisePost post = Posts.withLevels(140, 0, 139);
        is(3, post.levelCount(0));
        is(2, post.levelCount(1));
        is(2, post.levelCount(139));
        is(1, post.levelCount(140));
        post.set(8, 2);
        post.correct(0, 140, 0);
        // fast arm: 700, 350, 870
        is(2, post.levelCount(70));
        is(1, post.levelCount(71));
        is(3, post.levelCount(35));
        is(2, post.levelCount(36));
        is(1, post.levelCount(87));
        is(0, post.levelCount(88));
        post.correct(2, 139, 15);
        is(0, post.levelCount(71));
        is(2, post.levelCount(0));
        post.set(8, 3);
        // fast arm: 466, 311
        is(1, post.levelCount(46));
        is(0, post.levelCount(47));
        is(2, post.levelCount(31));
        is(1, post.levelCount(32));
    }

    private void percentLevel() {
        sentence = "the greatest level, 0 to 140, whose level count is at least p percent of the counted minutes";
        NoisePost post = Posts.withLevels(140, 0, 0);
        // 1 of 3 is 33 and a third percent
        is(140, post.percentLevel(33));
        is(0, post.percentLevel(34));
        is(0, post.percentLevel(100));
        post.correct(1, 139, 0);
        is(140, post.percentLevel(33));
        is(139, post.percentLevel(34));
        is(139, post.percentLevel(66));
        is(0, post.percentLevel(67));
        post.correct(2, 139, 0);
        is(139, post.percentLevel(100));
        post.set(5, 0);
        post.correct(2, 139, 15);
        is(140, post.percentLevel(50));
        is(139, post.percentLevel(51));
        NoisePost full = Posts.quick(50);
        full.tell(7, 0, 2);
        full.tell(3, 0, 60);
        full.tell(3, 0, 60);
        full.tell(3, 0, 60);
        full.tell(3, 0, 18);
        is(7, full.percentLevel(1));
        is(3, full.percentLevel(2));
        full.correct(1, 3, 0);
        is(3, full.percentLevel(1));
        is(0, Posts.withLevels(0).percentLevel(100));
        is(1, Posts.withLevels(1).percentLevel(100));
        is(140, Posts.withLevels(140).percentLevel(100));
    }
}
