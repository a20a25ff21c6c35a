/** Promises 8 to 12: the buffer, its syntax, load, and undo. */
final class TextsTest {
    private final Check check = new Check();

    public static void main(String[] args) {
        TextsTest test = new TextsTest();
        test.promise8Append();
        test.promise9ClearBuffer();
        test.promise10FirstError();
        test.promise10EachCharacterBehindEachBeginning();
        test.promise11Load();
        test.promise11LoadThrows();
        test.promise12Undo();
        test.promise12UndoOfEachChange();
        test.promise12UndoLeavesTheBuffer();
        test.check.end("TextsTest");
    }

    private void promise8Append() {
        NoisePost post = new NoisePost();
        for (int code : new int[] {32, 127, 0, -1, Integer.MAX_VALUE, Integer.MIN_VALUE}) {
            check.isThrown("8: append(" + code + ")", Posts.ARGUMENT, () -> post.append(code));
        }
        check.is("8: nothing is appended", 1, post.append(33));
        check.is("8: the highest code", 2, post.append(126));
        for (int length = 3; length <= 60; length++) {
            check.is("8: the new length", length, post.append('0'));
        }
        check.isThrown("8: 60 characters", Posts.STATE, () -> post.append('0'));
        check.isThrown("8: a wrong code comes first", Posts.ARGUMENT, () -> post.append(127));
        check.is("8: nothing is appended", 60, post.clearBuffer());
        check.is("8: no state is saved", 0, post.count(10));
    }

    private void promise9ClearBuffer() {
        NoisePost post = new NoisePost();
        check.is("9: empty", 0, post.clearBuffer());
        Posts.write(post, "5;x");
        check.is("9: the length before", 3, post.clearBuffer());
        check.is("9: empty then", 0, post.clearBuffer());
        check.is("9: no error is left", 0, post.firstError());
        check.is("9: from the beginning", 1, post.append('7'));
        check.is("9: the new character", 1, post.load());
        check.is("9: the new character", 7, post.minute(0, 0));
        check.is("9: load saves a state, clearBuffer none", 1, post.count(10));
    }

    private void promise10FirstError() {
        String[] whole = {"", "0", "9", "10", "99", "100", "139", "140", "0@0", "0@9", "0@10", "0@40", "140@40*60",
            "5*2", "5*9", "5*1", "5*10", "5*59", "5*60", "5@3*2;0", "5;", "5@", "5*", "5@1*", "0;0@0*60;140",
            "1;2;3;4;5;6;7;8;9;10;11;12;13;14;15;16;17;18;19;20;21;22;23"};
        for (String text : whole) {
            check.is("10: no error in " + text, text.length(), firstError(text));
        }
        Object[][] wrong = {{";", 0}, {"@", 0}, {"*", 0}, {"x", 0}, {"-1", 0}, {"00", 1}, {"01", 1}, {"141", 2},
            {"150", 2}, {"200", 2}, {"1400", 3}, {"1000", 3}, {"5@@", 2}, {"5@;", 2}, {"5@*", 2}, {"5@00", 3},
            {"5@01", 3}, {"5@41", 3}, {"5@50", 3}, {"5@400", 4}, {"5@100", 4}, {"5@1@", 3}, {"5*0", 2}, {"5*1;", 3},
            {"5*1*", 3}, {"5*1@", 3}, {"5*61", 3}, {"5*70", 3}, {"5*600", 4}, {"5*100", 4}, {"5*2*", 3}, {"5*2@3", 3},
            {"5*;", 2}, {"5*@", 2}, {"5**", 2}, {"5;;", 2}, {"5;@", 2}, {"5;00", 3}, {"5 ", 1}, {"5,6", 1},
            {"5:", 1}, {"5/", 1}, {"5A", 1}, {"5;141;x", 4}, {"5@3*2;7@41;", 9}, {"x5;", 0}};
        for (Object[] one : wrong) {
            String text = ((String) one[0]).replace(' ', '!');
            check.is("10: first error in " + text, one[1], firstError(text));
        }
        NoisePost post = new NoisePost();
        Posts.write(post, "5*1;6");
        check.is("10: asked once", 3, post.firstError());
        check.is("10: asked again", 3, post.firstError());
        check.is("10: the buffer stays", 5, post.clearBuffer());
    }

    private static int firstError(String text) {
        NoisePost post = new NoisePost();
        Posts.write(post, text);
        return post.firstError();
    }

    /** Each character behind each kind of beginning is an error or not, in the first part and in a later one. */
    private void promise10EachCharacterBehindEachBeginning() {
        String[][] follows = {
            {"", "0123456789"}, {"0", "@*;"}, {"1", "0123456789@*;"}, {"2", "0123456789@*;"}, {"9", "0123456789@*;"},
            {"10", "0123456789@*;"}, {"13", "0123456789@*;"}, {"14", "0@*;"}, {"15", "@*;"}, {"99", "@*;"},
            {"100", "@*;"}, {"140", "@*;"}, {"7@", "0123456789"}, {"7@0", "*;"}, {"7@1", "0123456789*;"},
            {"7@3", "0123456789*;"}, {"7@4", "0*;"}, {"7@5", "*;"}, {"7@9", "*;"}, {"7@10", "*;"}, {"7@40", "*;"},
            {"7*", "123456789"}, {"7*1", "0123456789"}, {"7*2", "0123456789;"}, {"7*5", "0123456789;"},
            {"7*6", "0;"}, {"7*7", ";"}, {"7*9", ";"}, {"7*10", ";"}, {"7*60", ";"}, {"7@8*", "123456789"},
            {"7@8*1", "0123456789"}, {"7@8*2", "0123456789;"}, {"7@8*60", ";"}};
        for (String[] one : follows) {
            for (String before : new String[] {"", "5;", "5@3*60;140@40;"}) {
                for (char next = 33; next <= 126; next++) {
                    String text = before + one[0];
                    int due = one[1].indexOf(next) >= 0 ? text.length() + 1 : text.length();
                    check.is("10: first error in " + text + next, due, firstError(text + next));
                }
            }
        }
    }

    private void promise11Load() {
        NoisePost post = new NoisePost();
        post.tell(1, 1, 2);
        Posts.write(post, "100@12*3;0;7@40;8*2;9*60");
        check.is("11: how many there are then", 69, post.load());
        int[][] due = {{1, 1}, {1, 1}, {100, 12}, {100, 12}, {100, 12}, {0, 0}, {7, 40}, {8, 0}, {8, 0}, {9, 0}};
        for (int minute = 0; minute < due.length; minute++) {
            check.is("11: level of " + minute, due[minute][0], post.minute(minute, 0));
            check.is("11: wind of " + minute, due[minute][1], post.minute(minute, 1));
        }
        check.is("11: the last", 9, post.minute(68, 0));
        check.is("11: the buffer is cleared", 0, post.clearBuffer());
        check.is("11: one state is saved", 2, post.count(10));
        check.is("11: undone at once", 1, post.undo());
        check.is("11: undone at once", 2, post.count(0));
        NoisePost full = new NoisePost();
        Posts.write(full, "0;0;0;0;0;0;0;0;0;0;0;0;0;0;0;0;0;0;0;0;0;0;0;0;0;0;0;0;0;33");
        check.is("11: 60 characters", 30, full.load());
        check.is("11: the thirtieth part", 33, full.minute(29, 0));
        Posts.write(full, "10@1*60;20*60;30@3*50");
        check.is("11: 200 minutes", 200, full.load());
        check.is("11: the last of 200", 30, full.minute(199, 0));
    }

    private void promise11LoadThrows() {
        String[] wrong = {"", ";", "5;", "5@", "5*", "5*1", "5@3*1", "5;;6", "141", "5@41", "5*61", "01", "5x",
            "5*60;5*60;5*60;5*60;", "5*60;5*60;5*60;5*60;x", "0;5*1"};
        for (String text : wrong) {
            NoisePost post = new NoisePost();
            post.tell(3, 3, 1);
            Posts.write(post, text);
            check.isThrown("11: load of " + text, Posts.ARGUMENT, post::load);
            check.is("11: no minute more", 1, post.count(0));
            check.is("11: not saved", 1, post.count(10));
            check.is("11: the buffer stays", text.length(), post.clearBuffer());
        }
        NoisePost post = new NoisePost();
        post.tell(3, 3, 60);
        post.tell(3, 3, 60);
        Posts.write(post, "5*60;6*19;7*2");
        check.isThrown("11: 201 minutes", Posts.STATE, post::load);
        check.is("11: no minute more", 120, post.count(0));
        check.is("11: the buffer stays", 13, post.firstError());
        check.is("11: not saved", 2, post.count(10));
        post.forget(1);
        check.is("11: 200 minutes", 200, post.load());
        check.is("11: the last", 7, post.minute(199, 0));
        post.append('0');
        check.isThrown("11: one more", Posts.STATE, post::load);
        post.append('0');
        check.isThrown("11: no complete text comes first", Posts.ARGUMENT, post::load);
    }

    private void promise12Undo() {
        NoisePost post = new NoisePost();
        check.isThrown("12: none is saved", Posts.STATE, post::undo);
        for (int limit = 1; limit <= 9; limit++) {
            post.set(0, limit);
            check.is("12: at most 8 are saved", Math.min(limit, 8), post.count(10));
        }
        for (int left = 7; left >= 0; left--) {
            check.is("12: how many are left", left, post.undo());
            check.is("12: count(10)", left, post.count(10));
            check.is("12: the latest one", left + 1, post.setting(0));
        }
        check.isThrown("12: the oldest one was dropped", Posts.STATE, post::undo);
        check.is("12: nothing changed", 1, post.setting(0));
        post.set(0, 50);
        post.set(0, 51);
        check.is("12: saved anew", 1, post.undo());
        check.is("12: saved anew", 50, post.setting(0));
        post.set(0, 52);
        check.is("12: behind an undo", 1, post.undo());
        check.is("12: behind an undo", 50, post.setting(0));
        check.is("12: the first one of them", 0, post.undo());
        check.is("12: the first one of them", 1, post.setting(0));
    }

    private void promise12UndoOfEachChange() {
        for (int undone = 1; undone <= 8; undone++) {
            int left = 9 - undone;
            int times = undone;
            NoisePost post = afterChanges(9, undone - 1);
            check.is("12: how many are left", left - 1, post.undo());
            check.is("12: as before change " + left,
                Posts.shown(() -> afterChanges(left, 0)), Posts.shown(() -> afterChanges(9, times)));
        }
    }

    /** A post behind so many of nine changes, and so many undos behind these. */
    private static NoisePost afterChanges(int changes, int undone) {
        NoisePost post = new NoisePost();
        for (int change = 1; change <= changes; change++) {
            make(change, post);
        }
        for (int i = 0; i < undone; i++) {
            post.undo();
        }
        return post;
    }

    private static void make(int change, NoisePost post) {
        switch (change) {
            case 1:
                post.tell(70, 3, 20);
                break;
            case 2:
                post.set(9, 3);
                break;
            case 3:
                post.tell(90, 16, 10);
                break;
            case 4:
                post.complain(22);
                break;
            case 5:
                post.correct(21, 100, 2);
                break;
            case 6:
                post.forget(5);
                break;
            case 7:
                post.withdraw(0);
                break;
            case 8:
                Posts.write(post, "99@1*30;3");
                post.load();
                break;
            default:
                post.set(0, 70);
                break;
        }
    }

    private void promise12UndoLeavesTheBuffer() {
        NoisePost post = new NoisePost();
        Posts.write(post, "77*5");
        post.load();
        Posts.write(post, "8");
        post.undo();
        check.is("12: the minutes are gone", 0, post.count(0));
        check.is("12: the buffer is as it is", 1, post.firstError());
        check.is("12: the buffer is as it is", 1, post.load());
        check.is("12: the buffer is as it is", 8, post.minute(0, 0));
    }
}
