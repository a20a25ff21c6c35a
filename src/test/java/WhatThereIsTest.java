/** Promises 13 to 19: minutes, exceedances, complaints, level counts, percent levels, numbers, settings. */
final class WhatThereIsTest {
    private final Check check = new Check();

    public static void main(String[] args) {
        WhatThereIsTest test = new WhatThereIsTest();
        test.promise13Arms();
        test.promise13ArmsStandStill();
        test.promise13RestAndLimit();
        test.promise13RestRoundTheHour();
        test.promise13Vetoes();
        test.promise13WhyNotAbove();
        test.promise13Exceedance();
        test.promise13Throws();
        test.promise14Exceedance();
        test.promise14Gap();
        test.promise14PeakAndWeight();
        test.promise14PeakOf0();
        test.promise14Throws();
        test.promise15Complaint();
        test.promise15Order();
        test.promise15GreatestPeak();
        test.promise15Patience();
        test.promise15Throws();
        test.promise16LevelCount();
        test.promise17PercentLevel();
        test.promise18Count();
        test.promise18GreatestWeight();
        test.promise18GoesOn();
        test.promise19Setting();
        test.check.end("WhatThereIsTest");
    }

    private void row(String what, NoisePost post, int property, int... due) {
        for (int minute = 0; minute < due.length; minute++) {
            check.is(what + ", minute(" + minute + ", " + property + ")", due[minute], post.minute(minute, property));
        }
    }

    private void exceedanceRow(String what, NoisePost post, int exceedance, int... due) {
        for (int property = 0; property < due.length; property++) {
            check.is(what + ", exceedance(" + exceedance + ", " + property + ")",
                due[property], post.exceedance(exceedance, property));
        }
    }

    private void promise13Arms() {
        NoisePost post = new NoisePost();
        post.tell(50, 1, 2);
        post.tell(0, 2, 3);
        row("13: level", post, 0, 50, 50, 0, 0, 0);
        row("13: wind", post, 1, 1, 1, 2, 2, 2);
        // time 2: 0 + 500/2, 250 + 250/2, 375 - 375/2 (187), 188 - 94, 94 - 47
        row("13: fast arm", post, 2, 250, 375, 188, 94, 47);
        // time 8: 0 + 500/8 (62), 62 + 438/8 (54), 116 - 116/8 (14), 102 - 12, 90 - 11
        row("13: slow arm", post, 3, 62, 116, 102, 90, 79);
        post.set(8, 1);
        row("13: fast arm at once", post, 2, 500, 500, 0, 0, 0);
        post.set(9, 50);
        row("13: slow arm", post, 3, 10, 19, 19, 19, 19);
        post.set(8, 20);
        row("13: fast arm", post, 2, 25, 48, 46, 44, 42);
        NoisePost low = new NoisePost();
        low.tell(7, 0, 3);
        low.set(8, 20);
        low.set(9, 40);
        row("13: fast arm", low, 2, 3, 6, 9);
        row("13: slow arm", low, 3, 1, 2, 3);
        low.set(8, 15);
        low.set(9, 50);
        low.correct(1, 0, 0);
        low.correct(2, 0, 0);
        row("13: fast arm", low, 2, 4, 4, 4);
        row("13: slow arm", low, 3, 1, 1, 1);
    }

    private void promise13ArmsStandStill() {
        NoisePost post = new NoisePost();
        post.tell(140, 0, 60);
        check.is("13: stands still below the level", 1393, post.minute(59, 3));
        check.is("13: stands still below the level", 1399, post.minute(59, 2));
        post.tell(0, 0, 60);
        check.is("13: stands still above the level", 7, post.minute(119, 3));
        check.is("13: stands still above the level", 1, post.minute(119, 2));
    }

    private void promise13RestAndLimit() {
        NoisePost post = new NoisePost();
        post.tell(0, 0, 60);
        post.tell(0, 0, 60);
        for (int minute = 0; minute < 120; minute++) {
            boolean rest = minute % 60 >= 40;
            check.is("13: rest of " + minute, rest ? 1 : 0, post.minute(minute, 5));
            check.is("13: limit of " + minute, rest ? 60 : 70, post.minute(minute, 4));
        }
        post.set(0, 5);
        post.set(1, 140);
        check.is("13: limit", 5, post.minute(39, 4));
        check.is("13: limit of rest", 140, post.minute(40, 4));
        post.set(3, 0);
        check.is("13: no rest", 0, post.minute(40, 5));
        check.is("13: no rest", 5, post.minute(40, 4));
        post.set(3, 60);
        check.is("13: nothing but rest", 120, post.count(3));
    }

    private void promise13RestRoundTheHour() {
        NoisePost post = new NoisePost();
        post.tell(0, 0, 60);
        post.tell(0, 0, 60);
        post.set(2, 50);
        post.set(3, 15);
        for (int minute = 0; minute < 120; minute++) {
            boolean rest = minute % 60 >= 50 || minute % 60 < 5;
            check.is("13: rest of " + minute, rest ? 1 : 0, post.minute(minute, 5));
        }
        post.set(2, 59);
        post.set(3, 1);
        check.is("13: one minute of rest", 0, post.minute(0, 5) + post.minute(58, 5) + post.minute(60, 5));
        check.is("13: one minute of rest", 2, post.minute(59, 5) + post.minute(119, 5));
        post.set(2, 0);
        check.is("13: the first minute", 2, post.minute(0, 5) + post.minute(60, 5));
        check.is("13: no other", 2, post.count(3));
    }

    private void promise13Vetoes() {
        NoisePost post = Posts.quick(50);
        int[] winds = {14, 15, 0, 0, 0, 16, 40, 3, 0, 0};
        for (int wind : winds) {
            post.tell(60, wind, 1);
        }
        row("13: calm 2", post, 6, 0, 1, 2, 2, 0, 1, 1, 2, 2, 0);
        post.set(5, 0);
        row("13: calm 0", post, 6, 0, 1, 0, 0, 0, 1, 1, 0, 0, 0);
        post.set(5, 1);
        row("13: calm 1", post, 6, 0, 1, 2, 0, 0, 1, 1, 2, 0, 0);
        post.set(5, 20);
        row("13: calm 20", post, 6, 0, 1, 2, 2, 2, 1, 1, 2, 2, 2);
        post.set(5, 2);
        post.set(4, 16);
        row("13: wind limit 16", post, 6, 0, 0, 0, 0, 0, 1, 1, 2, 2, 0);
        post.set(4, 41);
        row("13: wind limit 41", post, 6, 0, 0, 0, 0, 0, 0, 0, 0, 0, 0);
        post.set(4, 1);
        row("13: wind limit 1", post, 6, 1, 1, 2, 2, 0, 1, 1, 1, 2, 2);
    }

    private void promise13WhyNotAbove() {
        NoisePost post = Posts.quick(50);
        post.tell(50, 0, 1);
        post.tell(51, 0, 1);
        post.tell(40, 20, 1);
        post.tell(40, 0, 3);
        row("13: why", post, 6, 3, 0, 1, 2, 2, 3);
        post.set(9, 2);
        check.is("13: the slow arm counts", 3, post.minute(1, 6));
        post.set(8, 20);
        post.set(9, 1);
        check.is("13: the fast arm does not", 0, post.minute(1, 6));
        post.set(0, 0);
        post.correct(5, 0, 0);
        check.is("13: as high as the limit 0", 3, post.minute(5, 6));
        post.correct(5, 1, 0);
        check.is("13: higher than the limit 0", 0, post.minute(5, 6));
        post.set(2, 5);
        post.set(3, 1);
        check.is("13: the limit of rest", 3, post.minute(5, 6));
    }

    private void promise13Exceedance() {
        NoisePost post = Posts.withLevels(0, 60, 0, 0, 60, 0, 0, 0, 60, 0, 0);
        row("13: exceedance", post, 7, -1, 0, 0, 0, 0, -1, -1, -1, 1, -1, -1);
        post.correct(2, 60, 30);
        row("13: vetoed ones within", post, 7, -1, 0, -1, -1, -1, -1, -1, -1, 1, -1, -1);
        post.correct(2, 60, 0);
        post.correct(3, 60, 15);
        post.set(5, 0);
        row("13: vetoed ones within", post, 7, -1, 0, 0, 0, 0, -1, -1, -1, 1, -1, -1);
    }

    private void promise13Throws() {
        NoisePost post = Posts.withLevels(10, 20);
        for (int minute : new int[] {-1, 2, 200, Integer.MAX_VALUE, Integer.MIN_VALUE}) {
            check.isThrown("13: minute", Posts.INDEX, () -> post.minute(minute, 0));
            check.isThrown("13: no such minute comes first", Posts.INDEX, () -> post.minute(minute, 8));
        }
        for (int what : new int[] {-1, 8, Integer.MAX_VALUE, Integer.MIN_VALUE}) {
            check.isThrown("13: what", Posts.ARGUMENT, () -> post.minute(1, what));
        }
    }

    private void promise14Exceedance() {
        NoisePost post = Posts.withLevels(0, 60, 70, 50, 65, 0, 0, 0, 55);
        post.complain(1);
        check.is("14: how many", 2, post.count(5));
        exceedanceRow("14", post, 0, 1, 4, 3, 700, 450, 0);
        exceedanceRow("14", post, 1, 8, 8, 1, 550, 50, -1);
        post.complain(300);
        post.complain(9);
        exceedanceRow("14: matched by its number", post, 1, 8, 8, 1, 550, 50, 2);
    }

    private void promise14Gap() {
        for (int gap = 1; gap <= 20; gap++) {
            NoisePost post = Posts.quick(50);
            post.set(6, gap);
            post.tell(60, 0, 2);
            if (gap > 1) {
                post.tell(10, 0, gap - 1);
            }
            post.tell(60, 0, 1);
            check.is("14: goes on over less than the gap", 1, post.count(5));
            exceedanceRow("14: gap " + gap, post, 0, 0, gap + 1, 3, 600, 300, -1);
            post.tell(10, 0, gap);
            post.tell(60, 0, 1);
            check.is("14: ends by as many as the gap", 2, post.count(5));
            exceedanceRow("14: gap " + gap, post, 0, 0, gap + 1, 3, 600, 300, -1);
            exceedanceRow("14: gap " + gap, post, 1, 2 * gap + 2, 2 * gap + 2, 1, 600, 100, -1);
        }
        NoisePost post = Posts.withLevels(60, 0, 60, 60, 60);
        post.set(5, 0);
        post.correct(2, 60, 20);
        check.is("14: two that are not above", 1, post.count(5));
        post.correct(3, 60, 20);
        check.is("14: vetoed ones count among these", 2, post.count(5));
        NoisePost most = new NoisePost();
        most.set(0, 0);
        most.set(1, 0);
        most.set(5, 0);
        most.set(6, 1);
        for (int pair = 0; pair < 100; pair++) {
            most.tell(100, 0, 1);
            most.tell(100, 20, 1);
        }
        check.is("14: 100 exceedances", 100, most.count(5));
        exceedanceRow("14: the last of 100", most, 99, 198, 198, 1);
        check.is("14: the last of 100", 99, most.minute(198, 7));
        check.is("14: behind the last of 100", -1, most.minute(199, 7));
    }

    private void promise14PeakAndWeight() {
        NoisePost post = Posts.withLevels(60, 140, 80, 40, 70);
        post.set(5, 0);
        post.correct(1, 140, 40);
        exceedanceRow("14: only minutes that are above", post, 0, 0, 4, 3, 800, 600);
        post.set(2, 4);
        post.set(3, 1);
        post.set(1, 65);
        exceedanceRow("14: over their own limits", post, 0, 0, 4, 3, 800, 450);
        post.set(8, 2);
        // fast arm: 300, 850, 825, 613, 656
        exceedanceRow("14: the peak is the fast arm's", post, 0, 0, 4, 3, 825, 450);
        post.set(8, 1);
        post.set(9, 2);
        // slow arm: 300, 850 (vetoed), 825, 613, 656
        exceedanceRow("14: the weight is the slow arm's", post, 0, 2, 4, 3, 800, 325 + 113 + 6);
    }

    private void promise14PeakOf0() {
        NoisePost post = Posts.quick(50);
        post.set(9, 2);
        post.set(5, 0);
        post.tell(140, 20, 1);
        post.tell(140, 20, 1);
        post.tell(0, 0, 1);
        // slow arm: 700, 1050, 525
        exceedanceRow("14: the fast arm stands at 0", post, 0, 2, 2, 1, 0, 25);
    }

    private void promise14Throws() {
        NoisePost none = Posts.withLevels(10, 10);
        check.isThrown("14: there is none", Posts.INDEX, () -> none.exceedance(0, 0));
        NoisePost post = Posts.withLevels(60);
        for (int exceedance : new int[] {-1, 1, 100, Integer.MAX_VALUE, Integer.MIN_VALUE}) {
            check.isThrown("14: exceedance", Posts.INDEX, () -> post.exceedance(exceedance, 0));
            check.isThrown("14: no such exceedance comes first", Posts.INDEX, () -> post.exceedance(exceedance, 6));
        }
        for (int what : new int[] {-1, 6, Integer.MAX_VALUE, Integer.MIN_VALUE}) {
            check.isThrown("14: what", Posts.ARGUMENT, () -> post.exceedance(0, what));
        }
    }

    private void matches(String what, NoisePost post, int... due) {
        for (int complaint = 0; complaint < due.length; complaint++) {
            check.is(what + ", complaint(" + complaint + ", 1)", due[complaint], post.complaint(complaint, 1));
        }
    }

    private void promise15Complaint() {
        NoisePost post = Posts.withLevels(0, 60, 60, 0, 0, 0, 60);
        post.set(7, 2);
        for (int minute = 0; minute <= 9; minute++) {
            post.complain(minute);
            check.is("15: its minute", minute, post.complaint(0, 0));
            int due = minute >= 6 && minute <= 8 ? 1 : minute >= 1 && minute <= 4 ? 0 : -1;
            matches("15: a complaint of " + minute, post, due);
            check.is("15: count(7)", due < 0 ? 0 : 1, post.count(7));
            if (due >= 0) {
                check.is("15: the exceedance's complaint", 0, post.exceedance(due, 5));
            }
            post.withdraw(0);
        }
    }

    private void promise15Order() {
        NoisePost post = Posts.withLevels(60, 0, 0, 0, 70, 0, 0, 0, 65);
        post.complain(9);
        post.complain(4);
        post.complain(9);
        post.complain(4);
        post.complain(4);
        // those of minute 4 first: the first of them gets the peak 700, the next one 600, then minute 9 gets 650
        matches("15: by minutes, then by numbers", post, 2, 1, -1, 0, -1);
        check.is("15: exceedance 0", 3, post.exceedance(0, 5));
        check.is("15: exceedance 1", 1, post.exceedance(1, 5));
        check.is("15: exceedance 2", 0, post.exceedance(2, 5));
        check.is("15: count(7)", 3, post.count(7));
        post.withdraw(1);
        matches("15: matched anew", post, 2, -1, 1, 0);
        NoisePost early = Posts.withLevels(60, 0, 0, 0, 70);
        early.complain(5);
        early.complain(3);
        early.complain(2);
        matches("15: an early one takes nothing that begins later", early, 1, -1, 0);
    }

    private void promise15GreatestPeak() {
        NoisePost post = Posts.withLevels(60, 0, 0, 0, 70, 0, 0, 0, 70, 0, 0, 0, 65);
        for (int i = 0; i < 5; i++) {
            post.complain(13);
        }
        post.set(7, 20);
        matches("15: the greatest peak, of several the lowest number", post, 1, 2, 3, 0, -1);
        post.correct(5, 51, 0);
        post.correct(12, 100, 0);
        // exceedance 2 lasts from minute 12; minutes 4, 5 and 8 are one: the weight does not matter
        matches("15: by the peak, not by the weight", post, 2, 1, 0, -1, -1);
    }

    private void promise15Patience() {
        NoisePost post = Posts.withLevels(60, 60);
        post.complain(11);
        matches("15: patience 10", post, 0);
        post.complain(12);
        post.withdraw(0);
        matches("15: too late by one", post, -1);
        post.set(7, 11);
        matches("15: more patience", post, 0);
        post.set(7, 0);
        matches("15: no patience", post, -1);
        post.complain(1);
        matches("15: in its last minute", post, -1, 0);
        post.set(7, 60);
        post.complain(61);
        post.complain(62);
        matches("15: only one each", post, -1, 0, -1, -1);
        NoisePost late = Posts.withLevels(60, 60);
        late.set(7, 60);
        late.complain(61);
        matches("15: patience 60", late, 0);
        late.complain(62);
        late.withdraw(0);
        matches("15: patience 60", late, -1);
        late.complain(1);
        matches("15: there is one", late, -1, 0);
        late.set(0, 60);
        matches("15: there is none any more", late, -1, -1);
    }

    private void promise15Throws() {
        NoisePost post = new NoisePost();
        check.isThrown("15: there is none", Posts.INDEX, () -> post.complaint(0, 0));
        post.complain(7);
        for (int complaint : new int[] {-1, 1, 20, Integer.MAX_VALUE, Integer.MIN_VALUE}) {
            check.isThrown("15: complaint", Posts.INDEX, () -> post.complaint(complaint, 0));
            check.isThrown("15: no such complaint comes first", Posts.INDEX, () -> post.complaint(complaint, 2));
        }
        for (int what : new int[] {-1, 2, Integer.MAX_VALUE, Integer.MIN_VALUE}) {
            check.isThrown("15: what", Posts.ARGUMENT, () -> post.complaint(0, what));
        }
    }

    private void promise16LevelCount() {
        NoisePost post = Posts.withLevels(140, 20, 20, 139, 0);
        int[][] due = {{0, 5}, {1, 4}, {20, 4}, {21, 2}, {139, 2}, {140, 1}};
        for (int[] one : due) {
            check.is("16: levelCount(" + one[0] + ")", one[1], post.levelCount(one[0]));
        }
        post.correct(3, 139, 15);
        check.is("16: vetoed minutes do not count", 3, post.levelCount(0));
        check.is("16: vetoed minutes do not count", 1, post.levelCount(139));
        post.set(8, 2);
        // fast arm: 700, 450, 325
        check.is("16: exactly there", 1, post.levelCount(70));
        check.is("16: a tenth too low", 0, post.levelCount(71));
        check.is("16: exactly there", 2, post.levelCount(45));
        check.is("16: below", 3, post.levelCount(32));
        check.is("16: not there", 2, post.levelCount(33));
        check.is("16: of none", 0, new NoisePost().levelCount(0));
        for (int level : new int[] {-1, 141, Integer.MAX_VALUE, Integer.MIN_VALUE}) {
            check.isThrown("16: levelCount(" + level + ")", Posts.ARGUMENT, () -> post.levelCount(level));
        }
    }

    private void promise17PercentLevel() {
        NoisePost post = Posts.withLevels(140, 100, 50, 20, 0);
        int[][] due = {{1, 140}, {20, 140}, {21, 100}, {40, 100}, {41, 50}, {60, 50}, {61, 20}, {80, 20}, {81, 0},
            {100, 0}};
        for (int[] one : due) {
            check.is("17: percentLevel(" + one[0] + ")", one[1], post.percentLevel(one[0]));
        }
        post.set(8, 20);
        // fast arm: 70, 116, 135, 138, 132
        check.is("17: between the levels", 13, post.percentLevel(1));
        check.is("17: between the levels", 13, post.percentLevel(60));
        check.is("17: between the levels", 11, post.percentLevel(61));
        check.is("17: between the levels", 7, post.percentLevel(100));
        post.correct(2, 50, 20);
        check.is("17: only counted minutes", 11, post.percentLevel(50));
        check.is("17: only counted minutes", 7, post.percentLevel(51));
        post.correct(0, 140, 20);
        check.is("17: no counted minutes", -1, post.percentLevel(1));
        check.is("17: no minutes", -1, new NoisePost().percentLevel(100));
        NoisePost one = Posts.withLevels(1);
        check.is("17: one minute", 1, one.percentLevel(100));
        one.tell(3, 0, 60);
        one.tell(3, 0, 60);
        one.tell(3, 0, 60);
        one.tell(3, 0, 19);
        check.is("17: 199 of 200", 1, one.percentLevel(100));
        check.is("17: 199 of 200", 3, one.percentLevel(99));
        for (int percent : new int[] {0, 101, -1, Integer.MAX_VALUE, Integer.MIN_VALUE}) {
            check.isThrown("17: percentLevel(" + percent + ")", Posts.ARGUMENT, () -> post.percentLevel(percent));
            check.isThrown("17: of none", Posts.ARGUMENT, () -> new NoisePost().percentLevel(percent));
        }
    }

    private void promise18Count() {
        NoisePost post = Posts.quick(50);
        post.set(2, 2);
        post.set(3, 5);
        post.tell(55, 0, 3);
        post.tell(90, 20, 1);
        post.tell(40, 0, 4);
        post.tell(80, 0, 2);
        post.complain(3);
        post.complain(2);
        post.complain(10);
        // minutes 0 and 1 are above by 50 each (2 to 6 have the limit 60), 8 and 9 by 300 each
        int[] due = {10, 7, 3, 5, 4, 2, 3, 3, 700, 1, 8, 1};
        post.set(7, 8);
        due[7] = 2;
        for (int what = 0; what <= 11; what++) {
            check.is("18: count(" + what + ")", due[what], post.count(what));
        }
        for (int what : new int[] {-1, 12, Integer.MAX_VALUE, Integer.MIN_VALUE}) {
            check.isThrown("18: count(" + what + ")", Posts.ARGUMENT, () -> post.count(what));
        }
    }

    private void promise18GreatestWeight() {
        NoisePost post = Posts.withLevels(60, 0, 0, 0, 70, 0, 0, 0, 60, 60, 0, 0, 0, 51);
        check.is("18: the sum of all weights", 100 + 200 + 200 + 10, post.count(8));
        check.is("18: of several the lowest one", 1, post.count(9));
        post.correct(9, 61, 0);
        check.is("18: by the weight, not by the peak", 2, post.count(9));
        post.correct(0, 140, 0);
        check.is("18: the first one", 0, post.count(9));
        post.set(0, 140);
        check.is("18: none", -1, post.count(9));
        check.is("18: none", 0, post.count(8));
    }

    private void promise18GoesOn() {
        NoisePost post = Posts.withLevels(50, 50);
        check.is("18: none began", 0, post.count(11));
        post.tell(60, 0, 1);
        int[] due = {1, 1, 1, 0, 0};
        for (int after = 0; after < due.length; after++) {
            check.is("18: goes on behind " + after, due[after], post.count(11));
            post.tell(0, 20, 1);
        }
        post.set(6, 20);
        check.is("18: with a longer gap", 1, post.count(11));
        post.set(6, 1);
        check.is("18: with the shortest gap", 0, post.count(11));
        post.forget(5);
        check.is("18: forgotten", 0, post.count(11));
        NoisePost shortest = Posts.withLevels(60);
        shortest.set(6, 1);
        check.is("18: with the shortest gap", 1, shortest.count(11));
        shortest.tell(0, 0, 1);
        check.is("18: with the shortest gap", 0, shortest.count(11));
    }

    private void promise19Setting() {
        NoisePost post = new NoisePost();
        int[] values = {71, 61, 41, 21, 16, 3, 4, 11, 3, 9};
        for (int setting = 0; setting <= 9; setting++) {
            check.is("19: at first", Posts.SETTING_AT_FIRST[setting], post.setting(setting));
            post.set(setting, values[setting]);
        }
        for (int setting = 0; setting <= 9; setting++) {
            check.is("19: setting(" + setting + ")", values[setting], post.setting(setting));
        }
        for (int setting : new int[] {-1, 10, Integer.MAX_VALUE, Integer.MIN_VALUE}) {
            check.isThrown("19: setting(" + setting + ")", Posts.INDEX, () -> post.setting(setting));
        }
    }
}
