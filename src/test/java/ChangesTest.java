/** Promises 1 to 7: a new object and the changes, each with its arguments' edges. */
final class ChangesTest {
    private final Check check = new Check();

    public static void main(String[] args) {
        ChangesTest test = new ChangesTest();
        test.promise1NewObject();
        test.promise2Set();
        test.promise2SetThrows();
        test.promise2SetIsForAllMinutes();
        test.promise3Tell();
        test.promise3TellThrows();
        test.promise4Correct();
        test.promise4CorrectThrows();
        test.promise5Forget();
        test.promise5ForgetTellsAllByTheNewNumbers();
        test.promise5ForgetThrows();
        test.promise6Complain();
        test.promise6ComplainThrows();
        test.promise7Withdraw();
        test.promise7WithdrawThrows();
        test.check.end("ChangesTest");
    }

    private void promise1NewObject() {
        NoisePost post = new NoisePost();
        int[] due = {0, 0, 0, 0, 0, 0, 0, 0, 0, -1, 0, 0};
        for (int what = 0; what <= 11; what++) {
            check.is("1: count(" + what + ")", due[what], post.count(what));
        }
        for (int setting = 0; setting <= 9; setting++) {
            check.is("1: setting(" + setting + ")", Posts.SETTING_AT_FIRST[setting], post.setting(setting));
        }
        check.is("1: the buffer's length", 0, post.clearBuffer());
        check.is("1: firstError()", 0, post.firstError());
        post.set(0, 1);
        post.tell(1, 1, 1);
        post.complain(1);
        post.append('1');
        NoisePost other = new NoisePost();
        check.is("1: posts share nothing: setting(0)", 70, other.setting(0));
        check.is("1: posts share nothing: count(0)", 0, other.count(0));
        check.is("1: posts share nothing: count(6)", 0, other.count(6));
        check.is("1: posts share nothing: the buffer", 0, other.clearBuffer());
    }

    private void promise2Set() {
        for (int setting = 0; setting <= 9; setting++) {
            NoisePost post = new NoisePost();
            int least = Posts.SETTING_LEAST[setting];
            int most = Posts.SETTING_MOST[setting];
            check.is("2: set to the least", Posts.SETTING_AT_FIRST[setting], post.set(setting, least));
            check.is("2: setting(" + setting + ")", least, post.setting(setting));
            check.is("2: set to the most", least, post.set(setting, most));
            check.is("2: setting(" + setting + ")", most, post.setting(setting));
            check.is("2: set to the same", most, post.set(setting, most));
            check.is("2: each one saves a state", 3, post.count(10));
            for (int other = 0; other <= 9; other++) {
                if (other != setting) {
                    check.is("2: another setting", Posts.SETTING_AT_FIRST[other], post.setting(other));
                }
            }
            post.undo();
            post.undo();
            check.is("2: undone", least, post.setting(setting));
        }
    }

    private void promise2SetThrows() {
        for (int setting = 0; setting <= 9; setting++) {
            NoisePost post = new NoisePost();
            int number = setting;
            int below = Posts.SETTING_LEAST[setting] - 1;
            int beyond = Posts.SETTING_MOST[setting] + 1;
            check.isThrown("2: set(" + number + ", " + below + ")", Posts.ARGUMENT, () -> post.set(number, below));
            check.isThrown("2: set(" + number + ", " + beyond + ")", Posts.ARGUMENT, () -> post.set(number, beyond));
            check.is("2: not changed", Posts.SETTING_AT_FIRST[setting], post.setting(setting));
            check.is("2: not saved", 0, post.count(10));
        }
        NoisePost post = new NoisePost();
        for (int setting : new int[] {-1, 10, Integer.MIN_VALUE, Integer.MAX_VALUE}) {
            check.isThrown("2: no such setting", Posts.INDEX, () -> post.set(setting, 10));
            check.isThrown("2: no such setting comes first", Posts.INDEX, () -> post.set(setting, -1));
        }
    }

    private void promise2SetIsForAllMinutes() {
        NoisePost post = Posts.withLevels(60, 60, 40, 60);
        check.is("2: above before", 3, post.count(4));
        post.set(0, 60);
        check.is("2: no longer above", 0, post.count(4));
        post.set(0, 39);
        check.is("2: all above", 4, post.count(4));
        post.set(9, 2);
        check.is("2: the slow arm anew", 300, post.minute(0, 3));
        check.is("2: the fast arm as it was", 600, post.minute(0, 2));
    }

    private void promise3Tell() {
        NoisePost post = new NoisePost();
        check.is("3: tell", 3, post.tell(140, 40, 3));
        check.is("3: tell", 4, post.tell(0, 0, 1));
        check.is("3: tell", 64, post.tell(7, 5, 60));
        check.is("3: count(0)", 64, post.count(0));
        int[][] due = {{140, 40}, {140, 40}, {140, 40}, {0, 0}, {7, 5}};
        for (int minute = 0; minute < due.length; minute++) {
            check.is("3: level", due[minute][0], post.minute(minute, 0));
            check.is("3: wind", due[minute][1], post.minute(minute, 1));
        }
        check.is("3: level of the last", 7, post.minute(63, 0));
        check.is("3: wind of the last", 5, post.minute(63, 1));
        check.is("3: saved", 3, post.count(10));
        post.undo();
        check.is("3: undone", 4, post.count(0));
    }

    private void promise3TellThrows() {
        NoisePost post = new NoisePost();
        int[][] wrong = {{-1, 0, 1}, {141, 0, 1}, {0, -1, 1}, {0, 41, 1}, {0, 0, 0}, {0, 0, 61}, {0, 0, -1},
            {Integer.MAX_VALUE, 0, 1}, {0, Integer.MIN_VALUE, 1}, {0, 0, Integer.MAX_VALUE}, {0, 0, Integer.MIN_VALUE}};
        for (int[] one : wrong) {
            check.isThrown("3: tell", Posts.ARGUMENT, () -> post.tell(one[0], one[1], one[2]));
        }
        check.is("3: nothing saved", 0, post.count(10));
        post.tell(1, 1, 60);
        post.tell(1, 1, 60);
        post.tell(1, 1, 60);
        post.tell(1, 1, 19);
        check.isThrown("3: 201 minutes", Posts.STATE, () -> post.tell(1, 1, 2));
        check.is("3: none is added", 199, post.count(0));
        check.is("3: 200 minutes", 200, post.tell(9, 8, 1));
        check.is("3: the last one", 9, post.minute(199, 0));
        check.isThrown("3: 201 minutes", Posts.STATE, () -> post.tell(1, 1, 1));
        check.isThrown("3: a wrong argument comes first", Posts.ARGUMENT, () -> post.tell(141, 1, 1));
        check.isThrown("3: a wrong argument comes first", Posts.ARGUMENT, () -> post.tell(1, 41, 60));
        check.isThrown("3: a wrong argument comes first", Posts.ARGUMENT, () -> post.tell(1, 1, 61));
        check.is("3: saved", 5, post.count(10));
    }

    private void promise4Correct() {
        NoisePost post = Posts.withLevels(60, 0, 0, 60, 0, 0, 0, 60);
        check.is("4: exceedances before", 2, post.count(5));
        check.is("4: one less", 1, post.correct(7, 50, 0));
        check.is("4: two again", 2, post.correct(7, 51, 0));
        check.is("4: in one by the minute between", 1, post.correct(5, 60, 0));
        check.is("4: level", 60, post.minute(5, 0));
        check.is("4: vetoed, and the next two", 1, post.correct(5, 140, 40));
        check.is("4: level", 140, post.minute(5, 0));
        check.is("4: wind", 40, post.minute(5, 1));
        check.is("4: others stay", 0, post.minute(4, 0) + post.minute(6, 0) + post.minute(4, 1) + post.minute(6, 1));
        check.is("4: no minute more", 8, post.count(0));
        check.is("4: the first minute", 1, post.correct(0, 0, 0));
        check.is("4: the last but four", 0, post.correct(3, 50, 0));
        post.undo();
        post.undo();
        post.undo();
        check.is("4: undone", 60, post.minute(5, 0));
        check.is("4: undone", 0, post.minute(5, 1));
    }

    private void promise4CorrectThrows() {
        NoisePost post = Posts.withLevels(60, 61);
        int saved = post.count(10);
        for (int minute : new int[] {-1, 2, 200, Integer.MAX_VALUE, Integer.MIN_VALUE}) {
            check.isThrown("4: no such minute", Posts.INDEX, () -> post.correct(minute, 0, 0));
            check.isThrown("4: no such minute comes first", Posts.INDEX, () -> post.correct(minute, 141, 41));
        }
        int[][] wrong = {{-1, 0}, {141, 0}, {0, -1}, {0, 41}};
        for (int[] one : wrong) {
            check.isThrown("4: out of range", Posts.ARGUMENT, () -> post.correct(1, one[0], one[1]));
        }
        check.is("4: not changed", 61, post.minute(1, 0));
        check.is("4: not saved", saved, post.count(10));
        NoisePost none = new NoisePost();
        check.isThrown("4: there is no minute", Posts.INDEX, () -> none.correct(0, 0, 0));
    }

    private void promise5Forget() {
        NoisePost post = Posts.withLevels(11, 12, 13, 14, 15);
        post.complain(2);
        post.complain(1);
        post.complain(0);
        post.complain(300);
        check.is("5: forget(1)", 4, post.forget(1));
        int[] afterOne = {1, 0, 0, 299};
        for (int complaint = 0; complaint < 4; complaint++) {
            check.is("5: minutes in complaints", afterOne[complaint], post.complaint(complaint, 0));
        }
        check.is("5: forget(2)", 2, post.forget(2));
        check.is("5: the first now", 14, post.minute(0, 0));
        check.is("5: the second now", 15, post.minute(1, 0));
        check.is("5: a late complaint", 297, post.complaint(3, 0));
        check.is("5: no complaint less", 4, post.count(6));
        check.is("5: all", 0, post.forget(2));
        check.is("5: not below 0", 0, post.complaint(0, 0));
        check.is("5: a late complaint", 295, post.complaint(3, 0));
        post.undo();
        post.undo();
        check.is("5: undone", 4, post.count(0));
        check.is("5: undone", 12, post.minute(0, 0));
        check.is("5: undone", 299, post.complaint(3, 0));
        NoisePost full = new NoisePost();
        for (int level = 0; level < 200; level++) {
            full.tell(level % 140, level % 40, 1);
        }
        check.is("5: one of 200", 199, full.forget(1));
        check.is("5: the first of 199", 1, full.minute(0, 0));
        check.is("5: the last of 199", 59, full.minute(198, 0));
        check.is("5: its wind", 39, full.minute(198, 1));
        check.is("5: 199 of 200", 200, full.tell(5, 5, 1));
        check.is("5: 199 of 200", 1, full.forget(199));
        check.is("5: the last one", 5, full.minute(0, 0));
    }

    private void promise5ForgetTellsAllByTheNewNumbers() {
        NoisePost post = behindAWindyMinute();
        check.is("5: a veto by a minute before", 2, post.minute(2, 6));
        post.forget(1);
        String due = Posts.shown(() -> {
            NoisePost fresh = new NoisePost();
            fresh.tell(80, 3, 50);
            return fresh;
        });
        String got = Posts.shown(() -> {
            NoisePost forgotten = behindAWindyMinute();
            forgotten.forget(1);
            return forgotten;
        });
        check.is("5: as if the forgotten minutes had not been", due, got);
        check.is("5: the winds move too", 3, post.minute(0, 1));
        check.is("5: rest by the new number", 0, post.minute(39, 5));
        check.is("5: rest by the new number", 1, post.minute(40, 5));
        check.is("5: the arm in front of minute 0", 400, post.minute(0, 2));
    }

    private static NoisePost behindAWindyMinute() {
        NoisePost post = new NoisePost();
        post.tell(100, 20, 1);
        post.tell(80, 3, 50);
        return post;
    }

    private void promise5ForgetThrows() {
        NoisePost none = new NoisePost();
        check.isThrown("5: forget(1) of none", Posts.ARGUMENT, () -> none.forget(1));
        check.isThrown("5: forget(0) of none", Posts.ARGUMENT, () -> none.forget(0));
        NoisePost post = Posts.withLevels(60, 61, 62);
        post.complain(2);
        int saved = post.count(10);
        for (int minutes : new int[] {0, -1, 4, Integer.MAX_VALUE, Integer.MIN_VALUE}) {
            check.isThrown("5: forget(" + minutes + ")", Posts.ARGUMENT, () -> post.forget(minutes));
        }
        check.is("5: not changed", 3, post.count(0));
        check.is("5: not changed", 2, post.complaint(0, 0));
        check.is("5: not saved", saved, post.count(10));
    }

    private void promise6Complain() {
        NoisePost post = new NoisePost();
        check.is("6: the first", 0, post.complain(300));
        check.is("6: the second", 1, post.complain(0));
        for (int number = 2; number < 20; number++) {
            check.is("6: in order", number, post.complain(10 + number));
        }
        check.is("6: count(6)", 20, post.count(6));
        check.is("6: minute", 300, post.complaint(0, 0));
        check.is("6: minute", 0, post.complaint(1, 0));
        check.is("6: minute", 29, post.complaint(19, 0));
        check.is("6: without exceedances", -1, post.complaint(0, 1));
        post.undo();
        check.is("6: undone", 19, post.count(6));
    }

    private void promise6ComplainThrows() {
        NoisePost post = new NoisePost();
        for (int minute : new int[] {-1, 301, Integer.MAX_VALUE, Integer.MIN_VALUE}) {
            check.isThrown("6: complain(" + minute + ")", Posts.ARGUMENT, () -> post.complain(minute));
        }
        check.is("6: not saved", 0, post.count(10));
        for (int number = 0; number < 20; number++) {
            post.complain(number);
        }
        check.isThrown("6: 20 complaints", Posts.STATE, () -> post.complain(0));
        check.isThrown("6: a wrong minute comes first", Posts.ARGUMENT, () -> post.complain(301));
        post.withdraw(3);
        check.is("6: the last number again", 19, post.complain(0));
    }

    private void promise7Withdraw() {
        NoisePost post = Posts.withLevels(60, 0, 0, 0, 60);
        post.set(7, 0);
        post.complain(0);
        post.complain(2);
        post.complain(4);
        post.complain(4);
        check.is("7: not matched", -1, post.withdraw(1));
        check.is("7: the later ones move", 4, post.complaint(1, 0));
        check.is("7: the later ones move", 1, post.complaint(1, 1));
        check.is("7: the later ones move", 3, post.count(6));
        check.is("7: the second of the same minute", -1, post.complaint(2, 1));
        check.is("7: the exceedance of before", 1, post.withdraw(1));
        check.is("7: matched to the next one then", 1, post.complaint(1, 1));
        check.is("7: the last one", 1, post.withdraw(1));
        check.is("7: the first one", 0, post.withdraw(0));
        check.is("7: none is left", 0, post.count(6));
        post.undo();
        post.undo();
        check.is("7: undone", 2, post.count(6));
        check.is("7: undone", 4, post.complaint(1, 0));
    }

    private void promise7WithdrawThrows() {
        NoisePost post = new NoisePost();
        check.isThrown("7: there is none", Posts.INDEX, () -> post.withdraw(0));
        post.complain(5);
        for (int complaint : new int[] {-1, 1, 20, Integer.MAX_VALUE, Integer.MIN_VALUE}) {
            check.isThrown("7: no such complaint", Posts.INDEX, () -> post.withdraw(complaint));
        }
        check.is("7: not changed", 1, post.count(6));
        check.is("7: not saved", 1, post.count(10));
    }
}
