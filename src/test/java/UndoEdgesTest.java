/**
 * The document's head, 'Input text', 'Undo' and 'Exceptions': each sentence that names a boundary.
 */
final class UndoEdgesTest extends Edges {
    public static void main(String[] args) {
        UndoEdgesTest test = new UndoEdgesTest();
        test.texts();
        test.undo();
        test.exceptions();
        test.check.end("UndoEdgesTest");
    }

    // ---- Input text

    private static int firstError(String text) {
        NoisePost post = new NoisePost();
        Posts.write(post, text);
        return post.firstError();
    }

    /** What load answers of a post without minutes. */
    private static Object load(String text) {
        NoisePost post = new NoisePost();
        Posts.write(post, text);
        return Check.answer(post::load);
    }

    /** No character of the text is a syntax error, and it is complete or not. */
    private void isRead(String text, boolean complete, int minutes) {
        check.is(sentence + " first error in " + text, text.length(), firstError(text));
        Object due = complete ? (Object) minutes : "throws IllegalArgumentException";
        check.is(sentence + " load of " + text, due, load(text));
    }

    /** The last character of the text is the first syntax error. */
    private void isWrongAtItsEnd(String text) {
        check.is(sentence + " first error in " + text, text.length() - 1, firstError(text));
        check.is(sentence + " load of " + text, "throws IllegalArgumentException", load(text));
    }

    private void texts() {
        atMost60Characters();
        oneOrMoreParts();
        levelOfAPart();
        windOfAPart();
        timesOfAPart();
        windBeforeTimes();
        withoutLeadingZeros();
        noTextOfAnyLength();
    }

    private void atMost60Characters() {
        sentence = "The buffer has at most 60 characters.";
        NoisePost post = new NoisePost();
        is(0, post.clearBuffer());
        for (int length = 1; length <= 60; length++) {
            is(length, post.append('x'));
        }
        isThrown(Posts.STATE, () -> post.append('x'));
        is(0, post.firstError());
        is(60, post.clearBuffer());
        is(1, post.append('x'));
        is(1, post.clearBuffer());
    }

    private void oneOrMoreParts() {
        sentence = "A text is one or more parts separated by \";\".";
        isRead("", false, 0);
        isRead("7", true, 1);
        isRead("7;", false, 0);
        isRead("7;8", true, 2);
        isWrongAtItsEnd(";");
        isWrongAtItsEnd("7;;");
        isWrongAtItsEnd("7,");
        isRead("1;2;3;4;5;6;7;8;9;0;1;2;3;4;5;6;7;8;9;0;1;2;3;4;5;6;7;8;9;", false, 0);
        isRead("1;2;3;4;5;6;7;8;9;0;1;2;3;4;5;6;7;8;9;0;1;2;3;4;5;6;7;8;9;0", true, 30);
    }

    private void levelOfAPart() {
        sentence = "A part is a level, 0 to 140";
        isRead("0", true, 1);
        isRead("140", true, 1);
        isRead("99", true, 1);
        isRead("14", true, 1);
        isWrongAtItsEnd("141");
        isWrongAtItsEnd("150");
        isWrongAtItsEnd("1400");
        isWrongAtItsEnd("-");
        isWrongAtItsEnd("@");
        isWrongAtItsEnd("*");
        isWrongAtItsEnd("0;141");
    }

    private void windOfAPart() {
        sentence = "possibly \"@\" and a wind, 0 to 40 (0 without it)";
        isRead("7@", false, 0);
        isRead("7@0", true, 1);
        isRead("7@4", true, 1);
        isRead("7@40", true, 1);
        isWrongAtItsEnd("7@41");
        isWrongAtItsEnd("7@50");
        isWrongAtItsEnd("7@400");
        isWrongAtItsEnd("7@;");
        isWrongAtItsEnd("7@-");
        isWrongAtItsEnd("7@1@");
        NoisePost post = new NoisePost();
        Posts.write(post, "7@40;8;9@0");
        post.load();
        row(post, 1, 40, 0, 0);
    }

    private void timesOfAPart() {
        sentence = "possibly \"*\" and how many minutes it lasts, 2 to 60 (1 without it)";
        isRead("7*", false, 0);
        isRead("7*1", false, 0);
        isRead("7*2", true, 2);
        isRead("7*6", true, 6);
        isRead("7*10", true, 10);
        isRead("7*60", true, 60);
        isWrongAtItsEnd("7*0");
        isWrongAtItsEnd("7*1;");
        isWrongAtItsEnd("7*61");
        isWrongAtItsEnd("7*70");
        isWrongAtItsEnd("7*100");
        isWrongAtItsEnd("7*600");
        isWrongAtItsEnd("7*;");
        isWrongAtItsEnd("7*2*");
        NoisePost post = new NoisePost();
        Posts.write(post, "7*2;8;9*3");
        post.load();
        row(post, 0, 7, 7, 8, 9, 9, 9);
        is(6, post.count(0));
    }

    private void windBeforeTimes() {
        sentence = "a level, possibly \"@\" and a wind, and possibly \"*\" and how many minutes it lasts";
        isRead("7@3*2", true, 2);
        isWrongAtItsEnd("7*2@");
        isWrongAtItsEnd("7@*");
        isWrongAtItsEnd("7*1@");
        isRead("7@3*1", false, 0);
        isRead("140@40*60;140@40*60;140@40*60", true, 180);
    }

    private void withoutLeadingZeros() {
        sentence = "all without leading zeros";
        isWrongAtItsEnd("00");
        isWrongAtItsEnd("07");
        isWrongAtItsEnd("7@00");
        isWrongAtItsEnd("7@01");
        isWrongAtItsEnd("7*0");
        isWrongAtItsEnd("7;00");
        isRead("100@10*10", true, 10);
        isRead("0@0*20;0", true, 21);
    }

    private void noTextOfAnyLength() {
        sentence = "a character is a syntax error if no text, of any length, begins with the characters "
            + "before it and this character";
        String filled = "100@10*10;".repeat(6);
        isRead(filled, false, 0);
        isRead(filled.substring(0, 59), true, 60);
        isRead("7;".repeat(29) + "7@", false, 0);
        isRead("7;".repeat(29) + "7*", false, 0);
        isWrongAtItsEnd("7;".repeat(29) + "7x");
        // More than 200 minutes are no syntax error.
        String long240 = "7*60;7*60;7*60;7*60";
        is(long240.length(), firstError(long240));
        is("throws IllegalStateException", load(long240));
        is(1, firstError("7x;;x"));
        is(0, firstError("!7"));
        is(0, firstError("~"));
    }

    // ---- Undo

    private void undo() {
        savesTheStateFromBefore();
        alsoIfItChangesNothing();
        whatIsNotUndoableSavesNothing();
        whatThrowsSavesNothing();
        atMost8States();
        minutesSettingsAndComplaints();
    }

    private void savesTheStateFromBefore() {
        sentence = "Each method that is marked \"undoable\" and does not throw an exception saves the "
            + "state from before it";
        NoisePost post = new NoisePost();
        post.set(0, 71);
        is(1, post.count(10));
        post.tell(80, 3, 4);
        is(2, post.count(10));
        post.correct(1, 81, 2);
        is(3, post.count(10));
        post.complain(9);
        is(4, post.count(10));
        post.forget(1);
        is(5, post.count(10));
        post.withdraw(0);
        is(6, post.count(10));
        post.append('5');
        post.load();
        is(7, post.count(10));
        is(6, post.undo());
        is(3, post.count(0));
        is(0, post.count(6));
        is(5, post.undo());
        is(8, post.complaint(0, 0));
        is(4, post.undo());
        is(4, post.count(0));
        is(9, post.complaint(0, 0));
        is(80, post.minute(0, 0));
        is(81, post.minute(1, 0));
        is(3, post.undo());
        is(0, post.count(6));
        is(2, post.undo());
        is(80, post.minute(1, 0));
        is(3, post.minute(1, 1));
        is(1, post.undo());
        is(0, post.count(0));
        is(71, post.setting(0));
        is(0, post.undo());
        is(70, post.setting(0));
    }

    private void alsoIfItChangesNothing() {
        sentence = "(also if it changes nothing)";
        NoisePost post = new NoisePost();
        post.tell(80, 3, 1);
        post.set(0, 70);
        is(2, post.count(10));
        post.correct(0, 80, 3);
        is(3, post.count(10));
        is(2, post.undo());
        is(1, post.undo());
        is(1, post.count(0));
        is(0, post.undo());
        is(0, post.count(0));
    }

    private void whatIsNotUndoableSavesNothing() {
        sentence = "Each method that is marked \"undoable\": no other one saves a state";
        NoisePost post = Posts.withLevels(60);
        post.complain(0);
        post.undo();
        post.undo();
        post.tell(60, 0, 1);
        post.complain(0);
        int saved = post.count(10);
        post.append('5');
        post.firstError();
        post.clearBuffer();
        post.minute(0, 0);
        post.exceedance(0, 0);
        post.complaint(0, 0);
        post.levelCount(0);
        post.percentLevel(1);
        post.count(0);
        post.setting(0);
        post.ifSet(0, 0, 0);
        post.leastLimit(0);
        post.aboveIn(0);
        post.share();
        post.digest();
        is(saved, post.count(10));
        is(saved - 1, post.undo());
        is(saved - 1, post.count(10));
    }

    private void whatThrowsSavesNothing() {
        sentence = "and does not throw an exception";
        NoisePost post = new NoisePost();
        isThrown(Posts.INDEX, () -> post.set(10, 0));
        isThrown(Posts.ARGUMENT, () -> post.set(0, 141));
        isThrown(Posts.ARGUMENT, () -> post.tell(141, 0, 1));
        isThrown(Posts.INDEX, () -> post.correct(0, 0, 0));
        isThrown(Posts.ARGUMENT, () -> post.forget(1));
        isThrown(Posts.ARGUMENT, () -> post.complain(301));
        isThrown(Posts.INDEX, () -> post.withdraw(0));
        isThrown(Posts.ARGUMENT, post::load);
        is(0, post.count(10));
        isThrown(Posts.STATE, post::undo);
        is(0, post.count(10));
    }

    private void atMost8States() {
        sentence = "At most 8 states are saved; the oldest one is dropped first.";
        NoisePost post = new NoisePost();
        for (int minutes = 1; minutes <= 8; minutes++) {
            post.tell(minutes, 0, 1);
            is(minutes, post.count(10));
        }
        post.tell(9, 0, 1);
        is(8, post.count(10));
        post.tell(10, 0, 1);
        is(8, post.count(10));
        for (int left = 7; left >= 0; left--) {
            is(left, post.undo());
            is(left + 2, post.count(0));
            is(left + 2, post.minute(left + 1, 0));
        }
        isThrown(Posts.STATE, post::undo);
        is(2, post.count(0));
        for (int round = 0; round < 30; round++) {
            post.set(0, round);
            post.set(0, 100 + round);
            is(Math.min(7, round + 1), post.undo());
            is(round, post.setting(0));
        }
    }

    private void minutesSettingsAndComplaints() {
        sentence = "saves the state from before it: minutes, settings and complaints";
        is(Posts.shown(UndoEdgesTest::full), Posts.shown(() -> undone(8)));
        NoisePost post = undone(7);
        is(0, post.undo());
        sentence = "saves the state from before it: the buffer is none of these";
        is(0, post.clearBuffer());
        post.set(5, 3);
        post.append('4');
        is(0, post.undo());
        is(2, post.setting(5));
        is(1, post.clearBuffer());
    }

    /** A full post with eight changes of all that there is, and so many undos. */
    private static NoisePost undone(int times) {
        NoisePost post = full();
        post.correct(0, 1, 40);
        post.correct(199, 1, 39);
        post.set(0, 1);
        post.set(9, 1);
        post.forget(150);
        post.withdraw(19);
        post.withdraw(0);
        post.load();
        for (int i = 0; i < times; i++) {
            post.undo();
        }
        return post;
    }

    // ---- Exceptions

    private void exceptions() {
        changesNothing();
        theFirstNamedOne();
    }

    private static NoisePost full() {
        NoisePost post = new NoisePost();
        for (int i = 0; i < 4; i++) {
            post.tell(60 + 10 * i, 4 * i, 50);
        }
        for (int i = 0; i < 20; i++) {
            post.complain(13 * i);
        }
        Posts.write(post, "7*2");
        return post;
    }

    private void changesNothing() {
        sentence = "A call that throws an exception changes nothing.";
        NoisePost post = full();
        NoisePost spared = full();
        Check.Call[] calls = {() -> post.set(10, 0), () -> post.set(4, 0), () -> post.tell(0, 0, 61),
            () -> post.tell(0, 0, 1), () -> post.correct(200, 0, 0), () -> post.correct(0, 141, 0),
            () -> post.correct(0, 0, 41), () -> post.forget(0), () -> post.forget(201), () -> post.complain(301),
            () -> post.complain(0), () -> post.withdraw(20), () -> post.append(32), post::load,
            () -> post.minute(200, 0), () -> post.exceedance(100, 0), () -> post.complaint(20, 0),
            () -> post.levelCount(141), () -> post.percentLevel(0), () -> post.count(12), () -> post.setting(10),
            () -> post.ifSet(0, 141, 0), () -> post.ifSet(0, 0, 10), () -> post.leastLimit(201),
            () -> post.aboveIn(141)};
        for (Check.Call call : calls) {
            String answer = String.valueOf(Check.answer(call));
            check.is(sentence + " " + answer, true, answer.startsWith("throws "));
            is(spared.digest(), post.digest());
        }
        is(spared.undo(), post.undo());
        is(spared.digest(), post.digest());
        is(spared.clearBuffer(), post.clearBuffer());
    }

    private void theFirstNamedOne() {
        sentence = "If several exceptions apply, the one that is named first in the throws clause is thrown.";
        NoisePost post = full();
        isThrown(Posts.INDEX, () -> post.set(10, 141));
        isThrown(Posts.INDEX, () -> post.set(-1, -1));
        isThrown(Posts.ARGUMENT, () -> post.tell(141, 0, 1));
        isThrown(Posts.ARGUMENT, () -> post.tell(0, 41, 1));
        isThrown(Posts.ARGUMENT, () -> post.tell(0, 0, 61));
        isThrown(Posts.INDEX, () -> post.correct(200, 141, 0));
        isThrown(Posts.INDEX, () -> post.correct(-1, 0, 41));
        isThrown(Posts.ARGUMENT, () -> post.complain(301));
        isThrown(Posts.ARGUMENT, () -> post.complain(-1));
        isThrown(Posts.INDEX, () -> post.minute(200, 8));
        isThrown(Posts.INDEX, () -> post.minute(-1, -1));
        isThrown(Posts.INDEX, () -> post.exceedance(100, 6));
        isThrown(Posts.INDEX, () -> post.exceedance(-1, -1));
        isThrown(Posts.INDEX, () -> post.complaint(20, 2));
        isThrown(Posts.INDEX, () -> post.complaint(-1, -1));
        isThrown(Posts.INDEX, () -> post.ifSet(10, 141, 10));
        isThrown(Posts.INDEX, () -> post.ifSet(-1, -1, -1));
        post.append(';');
        isThrown(Posts.ARGUMENT, post::load);
        while (post.firstError() < 60 && post.append('x') < 60) {
            isThrown(Posts.ARGUMENT, () -> post.append(127));
        }
        isThrown(Posts.ARGUMENT, () -> post.append(32));
        isThrown(Posts.ARGUMENT, () -> post.append(127));
    }
}
